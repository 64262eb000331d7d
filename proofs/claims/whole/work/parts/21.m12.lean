-- Law0_law
def l_Law0_law_23 (F : Nat) (v0 : Option Nat) (q0 : Option Nat) (q8 : Option Nat) (q17 : Option Nat) : Nat → Int32 → fw_H → Option (Bool × fw_H)
  | 0, _, _ => none
  | nn + 1, a23_4, g23 =>
    (f_lnI g23 v0).bind fun x26 =>
    if (x26 - (6 : Int32)) < a23_4 then (some (true, g23)) else
    (f_aI g23 v0 a23_4).bind fun x36 =>
    if (x36 &&& (63 : Int32)) = (0 : Int32) then ((f_aI g23 v0 (a23_4 + (1 : Int32))).bind fun x230 =>
    (f_aI g23 v0 (a23_4 + (2 : Int32))).bind fun x236 =>
    (f_aI g23 v0 (a23_4 + (3 : Int32))).bind fun x242 =>
    (f_aI g23 v0 (a23_4 + (4 : Int32))).bind fun x248 =>
    (f_aI g23 v0 (a23_4 + (5 : Int32))).bind fun x254 =>
    (s_Joy_feed F g23 q0 x230 x236 x242 x248 x254).bind fun x255 =>
    (f_aI x255.2 v0 (a23_4 + (1 : Int32))).bind fun x264 =>
    (f_aI x255.2 v0 (a23_4 + (2 : Int32))).bind fun x270 =>
    (f_aI x255.2 v0 (a23_4 + (3 : Int32))).bind fun x276 =>
    (f_aI x255.2 v0 (a23_4 + (4 : Int32))).bind fun x282 =>
    (f_aI x255.2 v0 (a23_4 + (5 : Int32))).bind fun x288 =>
    (s_Mod_feed F x255.2 q8 x264 x270 x276 x282 x288).bind fun x289 =>
    if x255.1 = x289.1 then (l_Law0_law_23 F v0 q0 q8 q17 nn (a23_4 + (6 : Int32)) x289.2) else
    some (false, x289.2)) else
    if (x36 &&& (63 : Int32)) = (1 : Int32) then ((f_aI g23 v0 (a23_4 + (1 : Int32))).bind fun x303 =>
    (s_Joy_end g23 q0 x303).bind fun x304 =>
    (f_aI x304.2 v0 (a23_4 + (1 : Int32))).bind fun x313 =>
    (s_Mod_end x304.2 q8 x313).bind fun x314 =>
    if (fw_b x304.1) = (fw_b x314.1) then (l_Law0_law_23 F v0 q0 q8 q17 nn (a23_4 + (6 : Int32)) x314.2) else
    some (false, x314.2)) else
    if (x36 &&& (63 : Int32)) = (2 : Int32) then ((f_aI g23 v0 (a23_4 + (1 : Int32))).bind fun x328 =>
    (s_Joy_fault F g23 q0 x328).bind fun x329 =>
    (f_aI x329.2 v0 (a23_4 + (1 : Int32))).bind fun x338 =>
    (s_Mod_fault F x329.2 q8 x338).bind fun x339 =>
    if x329.1 = x339.1 then (l_Law0_law_23 F v0 q0 q8 q17 nn (a23_4 + (6 : Int32)) x339.2) else
    some (false, x339.2)) else
    if (x36 &&& (63 : Int32)) = (3 : Int32) then ((f_aI g23 v0 (a23_4 + (1 : Int32))).bind fun x353 =>
    (s_Joy_text F g23 q0 x353).bind fun x354 =>
    (f_aI x354.2 v0 (a23_4 + (1 : Int32))).bind fun x363 =>
    (s_Mod_text F x354.2 q8 x363).bind fun x364 =>
    if x354.1 = x364.1 then (l_Law0_law_23 F v0 q0 q8 q17 nn (a23_4 + (6 : Int32)) x364.2) else
    some (false, x364.2)) else
    if (x36 &&& (63 : Int32)) = (4 : Int32) then ((f_aI g23 v0 (a23_4 + (1 : Int32))).bind fun x378 =>
    (f_aI g23 v0 (a23_4 + (2 : Int32))).bind fun x384 =>
    (s_Law0_house g23 q0 x378 x384 q17).bind fun x386 =>
    (f_aI x386.2 v0 (a23_4 + (1 : Int32))).bind fun x397 =>
    (f_aI x386.2 v0 (a23_4 + (2 : Int32))).bind fun x403 =>
    (s_Mod_house x386.2 q8 x397 x403).bind fun x404 =>
    (s_Mod_thrown x404.2 q8).bind fun x410 =>
    if x410 = x386.1 then (if ¬ x386.1 = (0 : Int32) then (l_Law0_law_23 F v0 q0 q8 q17 nn (a23_4 + (6 : Int32)) x404.2) else
    (f_aJ x404.2 q17 (0 : Int32)).bind fun x427 =>
    if (lg_cmp x427 (Int32.toInt64 x404.1)) = (0 : Int32) then (l_Law0_law_23 F v0 q0 q8 q17 nn (a23_4 + (6 : Int32)) x404.2) else
    some (false, x404.2)) else
    some (false, x404.2)) else
    if (x36 &&& (63 : Int32)) = (5 : Int32) then ((f_aI g23 v0 (a23_4 + (1 : Int32))).bind fun x446 =>
    (f_aI g23 v0 (a23_4 + (2 : Int32))).bind fun x452 =>
    (s_Joy_window g23 q0 x446 x452).bind fun x453 =>
    (f_aI g23 v0 (a23_4 + (1 : Int32))).bind fun x462 =>
    (f_aI g23 v0 (a23_4 + (2 : Int32))).bind fun x468 =>
    (s_Mod_window g23 q8 x462 x468).bind fun x469 =>
    if x453 = x469 then (l_Law0_law_23 F v0 q0 q8 q17 nn (a23_4 + (6 : Int32)) g23) else
    some (false, g23)) else
    if (x36 &&& (63 : Int32)) = (6 : Int32) then ((f_aI g23 v0 (a23_4 + (1 : Int32))).bind fun x483 =>
    (s_Joy_law g23 q0 x483).bind fun x484 =>
    (f_aI x484.2 v0 (a23_4 + (1 : Int32))).bind fun x493 =>
    (s_Mod_law x484.2 q8 x493).bind fun x494 =>
    if (fw_b x484.1) = (fw_b x494.1) then (l_Law0_law_23 F v0 q0 q8 q17 nn (a23_4 + (6 : Int32)) x494.2) else
    some (false, x494.2)) else
    if (x36 &&& (63 : Int32)) = (7 : Int32) then ((f_aI g23 v0 (a23_4 + (1 : Int32))).bind fun x508 =>
    (s_Joy_wish F g23 q0 x508).bind fun x509 =>
    (f_aI x509.2 v0 (a23_4 + (1 : Int32))).bind fun x518 =>
    (s_Mod_wish F x509.2 q8 x518).bind fun x519 =>
    if x509.1 = x519.1 then (l_Law0_law_23 F v0 q0 q8 q17 nn (a23_4 + (6 : Int32)) x519.2) else
    some (false, x519.2)) else
    if (x36 &&& (63 : Int32)) = (8 : Int32) then ((f_aI g23 v0 (a23_4 + (1 : Int32))).bind fun x533 =>
    (f_aI g23 v0 (a23_4 + (2 : Int32))).bind fun x539 =>
    fw_jn (fun (t548_2 : Int32) =>
    (f_toB t548_2).bind fun b548 =>
    (s_Joy_turn g23 q0 x533 b548).bind fun x548 =>
    (f_aI x548.2 v0 (a23_4 + (1 : Int32))).bind fun x557 =>
    (f_aI x548.2 v0 (a23_4 + (2 : Int32))).bind fun x563 =>
    if x563 = (0 : Int32) then ((s_Mod_turn F x548.2 q8 x557 false).bind fun x572 =>
    if (fw_b x548.1) = (fw_b x572.1) then (l_Law0_law_23 F v0 q0 q8 q17 nn (a23_4 + (6 : Int32)) x572.2) else
    some (false, x572.2)) else
    (s_Mod_turn F x548.2 q8 x557 true).bind fun x572 =>
    if (fw_b x548.1) = (fw_b x572.1) then (l_Law0_law_23 F v0 q0 q8 q17 nn (a23_4 + (6 : Int32)) x572.2) else
    some (false, x572.2)) fun J548 =>
    if x539 = (0 : Int32) then (J548 (0 : Int32)) else
    J548 (1 : Int32)) else
    if (x36 &&& (63 : Int32)) = (9 : Int32) then ((f_aI g23 v0 (a23_4 + (1 : Int32))).bind fun x586 =>
    (f_aI g23 v0 (a23_4 + (2 : Int32))).bind fun x592 =>
    fw_jn (fun (t601_2 : Int32) =>
    (f_toB t601_2).bind fun b601 =>
    (s_Joy_shut g23 q0 x586 b601).bind fun x601 =>
    (f_aI x601.2 v0 (a23_4 + (1 : Int32))).bind fun x610 =>
    (f_aI x601.2 v0 (a23_4 + (2 : Int32))).bind fun x616 =>
    if x616 = (0 : Int32) then ((s_Mod_shut F x601.2 q8 x610 false).bind fun x625 =>
    if (fw_b x601.1) = (fw_b x625.1) then (l_Law0_law_23 F v0 q0 q8 q17 nn (a23_4 + (6 : Int32)) x625.2) else
    some (false, x625.2)) else
    (s_Mod_shut F x601.2 q8 x610 true).bind fun x625 =>
    if (fw_b x601.1) = (fw_b x625.1) then (l_Law0_law_23 F v0 q0 q8 q17 nn (a23_4 + (6 : Int32)) x625.2) else
    some (false, x625.2)) fun J601 =>
    if x592 = (0 : Int32) then (J601 (0 : Int32)) else
    J601 (1 : Int32)) else
    if (x36 &&& (63 : Int32)) = (10 : Int32) then ((f_aI g23 v0 (a23_4 + (1 : Int32))).bind fun x639 =>
    fw_jn (fun (t648_1 : Int32) =>
    (f_toB t648_1).bind fun b648 =>
    (s_Joy_music g23 q0 b648).bind fun x648 =>
    (f_aI x648.2 v0 (a23_4 + (1 : Int32))).bind fun x657 =>
    if x657 = (0 : Int32) then ((s_Mod_music F x648.2 q8 false).bind fun x666 =>
    if (fw_b x648.1) = (fw_b x666.1) then (l_Law0_law_23 F v0 q0 q8 q17 nn (a23_4 + (6 : Int32)) x666.2) else
    some (false, x666.2)) else
    (s_Mod_music F x648.2 q8 true).bind fun x666 =>
    if (fw_b x648.1) = (fw_b x666.1) then (l_Law0_law_23 F v0 q0 q8 q17 nn (a23_4 + (6 : Int32)) x666.2) else
    some (false, x666.2)) fun J648 =>
    if x639 = (0 : Int32) then (J648 (0 : Int32)) else
    J648 (1 : Int32)) else
    if (x36 &&& (63 : Int32)) = (11 : Int32) then ((f_aI g23 v0 (a23_4 + (1 : Int32))).bind fun x680 =>
    fw_jn (fun (t689_1 : Int32) =>
    (f_toB t689_1).bind fun b689 =>
    (s_Joy_fog g23 q0 b689).bind fun x689 =>
    (f_aI x689.2 v0 (a23_4 + (1 : Int32))).bind fun x698 =>
    if x698 = (0 : Int32) then ((s_Mod_fog F x689.2 q8 false).bind fun x707 =>
    if (fw_b x689.1) = (fw_b x707.1) then (l_Law0_law_23 F v0 q0 q8 q17 nn (a23_4 + (6 : Int32)) x707.2) else
    some (false, x707.2)) else
    (s_Mod_fog F x689.2 q8 true).bind fun x707 =>
    if (fw_b x689.1) = (fw_b x707.1) then (l_Law0_law_23 F v0 q0 q8 q17 nn (a23_4 + (6 : Int32)) x707.2) else
    some (false, x707.2)) fun J689 =>
    if x680 = (0 : Int32) then (J689 (0 : Int32)) else
    J689 (1 : Int32)) else
    if (x36 &&& (63 : Int32)) = (12 : Int32) then ((f_aI g23 v0 (a23_4 + (1 : Int32))).bind fun x721 =>
    (s_Joy_prescribe g23 q0 x721).bind fun x722 =>
    (f_aI x722.2 v0 (a23_4 + (1 : Int32))).bind fun x731 =>
    (s_Mod_prescribe F x722.2 q8 x731).bind fun x732 =>
    if x722.1 = x732.1 then (l_Law0_law_23 F v0 q0 q8 q17 nn (a23_4 + (6 : Int32)) x732.2) else
    some (false, x732.2)) else
    if (x36 &&& (63 : Int32)) = (13 : Int32) then ((s_Joy_lie g23 q0).bind fun x741 =>
    (s_Mod_lie F x741.2 q8).bind fun x745 =>
    if x741.1 = x745.1 then (l_Law0_law_23 F v0 q0 q8 q17 nn (a23_4 + (6 : Int32)) x745.2) else
    some (false, x745.2)) else
    if (x36 &&& (63 : Int32)) = (14 : Int32) then ((f_aI g23 v0 (a23_4 + (1 : Int32))).bind fun x759 =>
    (s_Joy_go F g23 q0 x759).bind fun x760 =>
    (f_aI x760.2 v0 (a23_4 + (1 : Int32))).bind fun x769 =>
    (s_Mod_go F x760.2 q8 x769).bind fun x770 =>
    if x760.1 = x770.1 then (l_Law0_law_23 F v0 q0 q8 q17 nn (a23_4 + (6 : Int32)) x770.2) else
    some (false, x770.2)) else
    if (x36 &&& (63 : Int32)) = (15 : Int32) then ((f_aI g23 v0 (a23_4 + (1 : Int32))).bind fun x784 =>
    (s_Joy_mist g23 q0 x784).bind fun x785 =>
    (f_aI x785.2 v0 (a23_4 + (1 : Int32))).bind fun x794 =>
    (s_Mod_mist x785.2 q8 x794).bind fun x795 =>
    if (fw_b x785.1) = (fw_b x795.1) then (l_Law0_law_23 F v0 q0 q8 q17 nn (a23_4 + (6 : Int32)) x795.2) else
    some (false, x795.2)) else
    if (x36 &&& (63 : Int32)) = (16 : Int32) then ((f_aI g23 v0 (a23_4 + (1 : Int32))).bind fun x809 =>
    (f_aI g23 v0 (a23_4 + (2 : Int32))).bind fun x815 =>
    (f_aI g23 v0 (a23_4 + (3 : Int32))).bind fun x825 =>
    (s_Joy_mists F g23 q0 x809 ((fw_lshl (Int32.toInt64 x815) (32 : Int32)) ||| ((Int32.toInt64 x825) &&& (4294967295 : Int64)))).bind fun x832 =>
    (f_aI x832.2 v0 (a23_4 + (1 : Int32))).bind fun x841 =>
    (f_aI x832.2 v0 (a23_4 + (2 : Int32))).bind fun x847 =>
    (f_aI x832.2 v0 (a23_4 + (3 : Int32))).bind fun x857 =>
    (s_Mod_mists F x832.2 q8 x841 ((fw_lshl (Int32.toInt64 x847) (32 : Int32)) ||| ((Int32.toInt64 x857) &&& (4294967295 : Int64)))).bind fun x864 =>
    if x832.1 = x864.1 then (l_Law0_law_23 F v0 q0 q8 q17 nn (a23_4 + (6 : Int32)) x864.2) else
    some (false, x864.2)) else
    if (x36 &&& (63 : Int32)) = (17 : Int32) then ((s_Joy_undo F g23 q0).bind fun x873 =>
    (s_Mod_undo F x873.2 q8).bind fun x877 =>
    if x873.1 = x877.1 then (l_Law0_law_23 F v0 q0 q8 q17 nn (a23_4 + (6 : Int32)) x877.2) else
    some (false, x877.2)) else
    if (x36 &&& (63 : Int32)) = (18 : Int32) then ((f_aI g23 v0 (a23_4 + (1 : Int32))).bind fun x891 =>
    (s_Joy_log g23 q0 x891).bind fun x892 =>
    (f_aI g23 v0 (a23_4 + (1 : Int32))).bind fun x901 =>
    (s_Mod_log g23 q8 x901).bind fun x902 =>
    if x892 = x902 then (l_Law0_law_23 F v0 q0 q8 q17 nn (a23_4 + (6 : Int32)) g23) else
    some (false, g23)) else
    if (x36 &&& (63 : Int32)) = (19 : Int32) then ((f_aI g23 v0 (a23_4 + (1 : Int32))).bind fun x916 =>
    (s_Joy_ahead F g23 q0 x916).bind fun x917 =>
    (f_aI x917.2 v0 (a23_4 + (1 : Int32))).bind fun x926 =>
    (s_Mod_ahead F x917.2 q8 x926).bind fun x927 =>
    if x917.1 = x927.1 then (l_Law0_law_23 F v0 q0 q8 q17 nn (a23_4 + (6 : Int32)) x927.2) else
    some (false, x927.2)) else
    if (x36 &&& (63 : Int32)) = (20 : Int32) then ((f_aI g23 v0 (a23_4 + (1 : Int32))).bind fun x941 =>
    (s_Joy_when F g23 q0 x941).bind fun x942 =>
    (f_aI x942.2 v0 (a23_4 + (1 : Int32))).bind fun x951 =>
    (s_Mod_when F x942.2 q8 x951).bind fun x952 =>
    if x942.1 = x952.1 then (l_Law0_law_23 F v0 q0 q8 q17 nn (a23_4 + (6 : Int32)) x952.2) else
    some (false, x952.2)) else
    if (x36 &&& (63 : Int32)) = (21 : Int32) then ((f_aI g23 v0 (a23_4 + (1 : Int32))).bind fun x966 =>
    (s_Joy_round F g23 q0 x966).bind fun x967 =>
    (f_aI x967.2 v0 (a23_4 + (1 : Int32))).bind fun x976 =>
    (s_Mod_round F x967.2 q8 x976).bind fun x977 =>
    if x967.1 = x977.1 then (l_Law0_law_23 F v0 q0 q8 q17 nn (a23_4 + (6 : Int32)) x977.2) else
    some (false, x977.2)) else
    if (x36 &&& (63 : Int32)) = (22 : Int32) then ((s_Joy_never F g23 q0).bind fun x986 =>
    (s_Mod_never F x986.2 q8).bind fun x990 =>
    if x986.1 = x990.1 then (l_Law0_law_23 F v0 q0 q8 q17 nn (a23_4 + (6 : Int32)) x990.2) else
    some (false, x990.2)) else
    if (x36 &&& (63 : Int32)) = (23 : Int32) then ((s_Joy_feud F g23 q0).bind fun x999 =>
    (s_Mod_feud F x999.2 q8).bind fun x1003 =>
    if x999.1 = x1003.1 then (l_Law0_law_23 F v0 q0 q8 q17 nn (a23_4 + (6 : Int32)) x1003.2) else
    some (false, x1003.2)) else
    if (x36 &&& (63 : Int32)) = (24 : Int32) then ((f_aI g23 v0 (a23_4 + (1 : Int32))).bind fun x1017 =>
    (f_aI g23 v0 (a23_4 + (2 : Int32))).bind fun x1023 =>
    (s_Joy_stand F g23 q0 x1017 x1023).bind fun x1024 =>
    (f_aI x1024.2 v0 (a23_4 + (1 : Int32))).bind fun x1033 =>
    (f_aI x1024.2 v0 (a23_4 + (2 : Int32))).bind fun x1039 =>
    (s_Mod_stand F x1024.2 q8 x1033 x1039).bind fun x1040 =>
    if x1024.1 = x1040.1 then (l_Law0_law_23 F v0 q0 q8 q17 nn (a23_4 + (6 : Int32)) x1040.2) else
    some (false, x1040.2)) else
    if (x36 &&& (63 : Int32)) = (25 : Int32) then ((f_aI g23 v0 (a23_4 + (1 : Int32))).bind fun x1054 =>
    (f_aI g23 v0 (a23_4 + (2 : Int32))).bind fun x1060 =>
    (s_Joy_lies F g23 q0 x1054 x1060).bind fun x1061 =>
    (f_aI x1061.2 v0 (a23_4 + (1 : Int32))).bind fun x1070 =>
    (f_aI x1061.2 v0 (a23_4 + (2 : Int32))).bind fun x1076 =>
    (s_Mod_lies F x1061.2 q8 x1070 x1076).bind fun x1077 =>
    if x1061.1 = x1077.1 then (l_Law0_law_23 F v0 q0 q8 q17 nn (a23_4 + (6 : Int32)) x1077.2) else
    some (false, x1077.2)) else
    if (x36 &&& (63 : Int32)) = (26 : Int32) then ((f_aI g23 v0 (a23_4 + (1 : Int32))).bind fun x1091 =>
    (s_Joy_shutters F g23 q0 x1091).bind fun x1092 =>
    (f_aI x1092.2 v0 (a23_4 + (1 : Int32))).bind fun x1101 =>
    (s_Mod_shutters F x1092.2 q8 x1101).bind fun x1102 =>
    if x1092.1 = x1102.1 then (l_Law0_law_23 F v0 q0 q8 q17 nn (a23_4 + (6 : Int32)) x1102.2) else
    some (false, x1102.2)) else
    if (x36 &&& (63 : Int32)) = (27 : Int32) then ((f_aI g23 v0 (a23_4 + (1 : Int32))).bind fun x1116 =>
    (f_aI g23 v0 (a23_4 + (2 : Int32))).bind fun x1122 =>
    (f_aI g23 v0 (a23_4 + (3 : Int32))).bind fun x1128 =>
    (s_Joy_feast F g23 q0 x1116 x1122 x1128).bind fun x1129 =>
    (f_aI x1129.2 v0 (a23_4 + (1 : Int32))).bind fun x1138 =>
    (f_aI x1129.2 v0 (a23_4 + (2 : Int32))).bind fun x1144 =>
    (f_aI x1129.2 v0 (a23_4 + (3 : Int32))).bind fun x1150 =>
    (s_Mod_feast F x1129.2 q8 x1138 x1144 x1150).bind fun x1151 =>
    if x1129.1 = x1151.1 then (l_Law0_law_23 F v0 q0 q8 q17 nn (a23_4 + (6 : Int32)) x1151.2) else
    some (false, x1151.2)) else
    if (x36 &&& (63 : Int32)) = (28 : Int32) then ((f_aI g23 v0 (a23_4 + (1 : Int32))).bind fun x1165 =>
    (f_aI g23 v0 (a23_4 + (2 : Int32))).bind fun x1171 =>
    (f_aI g23 v0 (a23_4 + (3 : Int32))).bind fun x1177 =>
    (s_Joy_odds F g23 q0 x1165 x1171 x1177).bind fun x1178 =>
    (f_aI x1178.2 v0 (a23_4 + (1 : Int32))).bind fun x1187 =>
    (f_aI x1178.2 v0 (a23_4 + (2 : Int32))).bind fun x1193 =>
    (f_aI x1178.2 v0 (a23_4 + (3 : Int32))).bind fun x1199 =>
    (s_Mod_odds F x1178.2 q8 x1187 x1193 x1199).bind fun x1200 =>
    if x1178.1 = x1200.1 then (l_Law0_law_23 F v0 q0 q8 q17 nn (a23_4 + (6 : Int32)) x1200.2) else
    some (false, x1200.2)) else
    if (x36 &&& (63 : Int32)) = (29 : Int32) then ((f_aI g23 v0 (a23_4 + (1 : Int32))).bind fun x1214 =>
    (f_aI g23 v0 (a23_4 + (2 : Int32))).bind fun x1220 =>
    (f_aI g23 v0 (a23_4 + (3 : Int32))).bind fun x1226 =>
    (s_Joy_mean F g23 q0 x1214 x1220 x1226).bind fun x1227 =>
    (f_aI x1227.2 v0 (a23_4 + (1 : Int32))).bind fun x1236 =>
    (f_aI x1227.2 v0 (a23_4 + (2 : Int32))).bind fun x1242 =>
    (f_aI x1227.2 v0 (a23_4 + (3 : Int32))).bind fun x1248 =>
    (s_Mod_mean F x1227.2 q8 x1236 x1242 x1248).bind fun x1249 =>
    if x1227.1 = x1249.1 then (l_Law0_law_23 F v0 q0 q8 q17 nn (a23_4 + (6 : Int32)) x1249.2) else
    some (false, x1249.2)) else
    if (x36 &&& (63 : Int32)) = (30 : Int32) then ((f_aI g23 v0 (a23_4 + (1 : Int32))).bind fun x1263 =>
    (f_aI g23 v0 (a23_4 + (2 : Int32))).bind fun x1269 =>
    (f_aI g23 v0 (a23_4 + (3 : Int32))).bind fun x1275 =>
    (f_aI g23 v0 (a23_4 + (4 : Int32))).bind fun x1281 =>
    (s_Joy_pretend F g23 q0 x1263 x1269 x1275 x1281).bind fun x1282 =>
    (f_aI x1282.2 v0 (a23_4 + (1 : Int32))).bind fun x1291 =>
    (f_aI x1282.2 v0 (a23_4 + (2 : Int32))).bind fun x1297 =>
    (f_aI x1282.2 v0 (a23_4 + (3 : Int32))).bind fun x1303 =>
    (f_aI x1282.2 v0 (a23_4 + (4 : Int32))).bind fun x1309 =>
    (s_Mod_pretend F x1282.2 q8 x1291 x1297 x1303 x1309).bind fun x1310 =>
    if x1282.1 = x1310.1 then (l_Law0_law_23 F v0 q0 q8 q17 nn (a23_4 + (6 : Int32)) x1310.2) else
    some (false, x1310.2)) else
    if (x36 &&& (63 : Int32)) = (31 : Int32) then ((f_aI g23 v0 (a23_4 + (1 : Int32))).bind fun x1324 =>
    (f_aI g23 v0 (a23_4 + (2 : Int32))).bind fun x1330 =>
    (f_aI g23 v0 (a23_4 + (3 : Int32))).bind fun x1336 =>
    (s_Joy_rests F g23 q0 x1324 x1330 x1336).bind fun x1337 =>
    (f_aI x1337.2 v0 (a23_4 + (1 : Int32))).bind fun x1346 =>
    (f_aI x1337.2 v0 (a23_4 + (2 : Int32))).bind fun x1352 =>
    (f_aI x1337.2 v0 (a23_4 + (3 : Int32))).bind fun x1358 =>
    (s_Mod_rests F x1337.2 q8 x1346 x1352 x1358).bind fun x1359 =>
    if x1337.1 = x1359.1 then (l_Law0_law_23 F v0 q0 q8 q17 nn (a23_4 + (6 : Int32)) x1359.2) else
    some (false, x1359.2)) else
    if (x36 &&& (63 : Int32)) = (32 : Int32) then ((f_aI g23 v0 (a23_4 + (1 : Int32))).bind fun x1373 =>
    (f_aI g23 v0 (a23_4 + (2 : Int32))).bind fun x1379 =>
    (s_Joy_see g23 q0 x1373 x1379).bind fun x1380 =>
    (f_aI x1380.2 v0 (a23_4 + (1 : Int32))).bind fun x1389 =>
    (f_aI x1380.2 v0 (a23_4 + (2 : Int32))).bind fun x1395 =>
    (s_Mod_see x1380.2 q8 x1389 x1395).bind fun x1396 =>
    if x1380.1 = x1396.1 then (l_Law0_law_23 F v0 q0 q8 q17 nn (a23_4 + (6 : Int32)) x1396.2) else
    some (false, x1396.2)) else
    if (x36 &&& (63 : Int32)) = (33 : Int32) then ((f_aI g23 v0 (a23_4 + (1 : Int32))).bind fun x1410 =>
    (s_Joy_envied F g23 q0 x1410).bind fun x1411 =>
    (f_aI x1411.2 v0 (a23_4 + (1 : Int32))).bind fun x1420 =>
    (s_Mod_envied F x1411.2 q8 x1420).bind fun x1421 =>
    if x1411.1 = x1421.1 then (l_Law0_law_23 F v0 q0 q8 q17 nn (a23_4 + (6 : Int32)) x1421.2) else
    some (false, x1421.2)) else
    if (x36 &&& (63 : Int32)) = (34 : Int32) then ((s_Joy_sure F g23 q0).bind fun x1430 =>
    (s_Mod_sure F x1430.2 q8).bind fun x1434 =>
    if x1430.1 = x1434.1 then (l_Law0_law_23 F v0 q0 q8 q17 nn (a23_4 + (6 : Int32)) x1434.2) else
    some (false, x1434.2)) else
    if (x36 &&& (63 : Int32)) = (35 : Int32) then ((s_Joy_sills F g23 q0).bind fun x1443 =>
    (s_Mod_sills F x1443.2 q8).bind fun x1447 =>
    if x1443.1 = x1447.1 then (l_Law0_law_23 F v0 q0 q8 q17 nn (a23_4 + (6 : Int32)) x1447.2) else
    some (false, x1447.2)) else
    if (x36 &&& (63 : Int32)) = (36 : Int32) then ((f_aI g23 v0 (a23_4 + (1 : Int32))).bind fun x1461 =>
    (s_Joy_sees F g23 q0 x1461).bind fun x1462 =>
    (f_aI g23 v0 (a23_4 + (1 : Int32))).bind fun x1471 =>
    (s_Mod_sees F g23 q8 x1471).bind fun x1472 =>
    if x1462 = x1472 then (l_Law0_law_23 F v0 q0 q8 q17 nn (a23_4 + (6 : Int32)) g23) else
    some (false, g23)) else
    if (x36 &&& (63 : Int32)) = (37 : Int32) then ((s_Joy_most F g23 q0).bind fun x1481 =>
    (s_Mod_most F g23 q8).bind fun x1485 =>
    if x1481 = x1485 then (l_Law0_law_23 F v0 q0 q8 q17 nn (a23_4 + (6 : Int32)) g23) else
    some (false, g23)) else
    if (x36 &&& (63 : Int32)) = (38 : Int32) then ((s_Joy_widows F g23 q0).bind fun x1494 =>
    (s_Mod_widows F g23 q8).bind fun x1498 =>
    if x1494 = x1498 then (l_Law0_law_23 F v0 q0 q8 q17 nn (a23_4 + (6 : Int32)) g23) else
    some (false, g23)) else
    if (x36 &&& (63 : Int32)) = (39 : Int32) then ((s_Joy_image F g23 q0).bind fun x1507 =>
    (s_Mod_image F x1507.2 q8).bind fun x1511 =>
    if x1507.1 = x1511.1 then (l_Law0_law_23 F v0 q0 q8 q17 nn (a23_4 + (6 : Int32)) x1511.2) else
    some (false, x1511.2)) else
    if (x36 &&& (63 : Int32)) = (40 : Int32) then ((s_Joy_back F g23 q0).bind fun x1520 =>
    (s_Mod_back F x1520.2 q8).bind fun x1524 =>
    if x1520.1 = x1524.1 then (l_Law0_law_23 F v0 q0 q8 q17 nn (a23_4 + (6 : Int32)) x1524.2) else
    some (false, x1524.2)) else
    if (x36 &&& (63 : Int32)) = (41 : Int32) then ((f_aI g23 v0 (a23_4 + (1 : Int32))).bind fun x1538 =>
    (s_Joy_count F g23 q0 x1538).bind fun x1539 =>
    (f_aI g23 v0 (a23_4 + (1 : Int32))).bind fun x1548 =>
    (s_Mod_count F g23 q8 x1548).bind fun x1549 =>
    if x1539 = x1549 then (l_Law0_law_23 F v0 q0 q8 q17 nn (a23_4 + (6 : Int32)) g23) else
    some (false, g23)) else
    l_Law0_law_23 F v0 q0 q8 q17 nn (a23_4 + (6 : Int32)) g23
set_option maxRecDepth 100000 in
set_option maxHeartbeats 4000000 in
theorem cl_Law0_law_23 {G : fw_G} {F : Nat} {v0 : Option Nat} {q0 : Option Nat} {q8 : Option Nat} {q17 : Option Nat} : ∀ (nn : Nat) (a23_4 : Int32) (g23 : fw_H), fw_R G m_Law0_law fw_wB 170 (3 * nn) (285 * nn) 23 [(0, some (fw_r v0)), (1, some (fw_r q0)), (2, some (fw_r q8)), (3, some (fw_r q17)), (4, some (fw_i a23_4))] [] g23 (l_Law0_law_23 F v0 q0 q8 q17 nn a23_4 g23) := by
  intro nn
  induction nn with
  | zero => intros; exact r_none
  | succ nn ih =>
    intro a23_4 g23
    rw [l_Law0_law_23]
    refine r_wk (k2 := 3 * nn + 3) (n2 := 285 * nn + 285) (by omega) (by omega) ?_
    refine r_iload (i := 13) rfl rfl rfl ?_
    refine r_aload_n (i := 14) rfl rfl rfl ?_
    refine r_lnI (i := 15) rfl rfl fun x26 => ?_
    refine r_bipush (i := 16) (6 : Int32) kc_bipush_6 rfl rfl ?_
    refine r_isub (i := 17) rfl rfl ?_
    refine r_icmp_gt (i := 18) (tgt := 1563) rfl rfl rfl ?_ ?_
    · refine r_iconst (i := 945) (1 : Int32) kc_iconst_1 rfl rfl ?_
      exact r_retB (x := true) (i := 946) rfl rfl rfl rfl
    · refine r_aload_n (i := 19) rfl rfl rfl ?_
      refine r_iload (i := 20) rfl rfl rfl ?_
      refine r_aI (i := 21) rfl rfl fun x36 => ?_
      refine r_bipush (i := 22) (63 : Int32) kc_bipush_63 rfl rfl ?_
      refine r_iand (i := 23) rfl rfl ?_
      refine r_split (fun e40_0 => ?_) (fun n40_0 => ?_)
      · refine r_tinK (i := 24) (tgt := 224) (len := 184) (v := (0 : Int32)) (off := 184) e40_0 rfl rfl (by decide) (by decide) rfl ?_
        refine r_aload_n (i := 25) rfl rfl rfl ?_
        refine r_aload_n (i := 26) rfl rfl rfl ?_
        refine r_iload (i := 27) rfl rfl rfl ?_
        refine r_iconst (i := 28) (1 : Int32) kc_iconst_1 rfl rfl ?_
        refine r_iadd (i := 29) rfl rfl ?_
        refine r_aI (i := 30) rfl rfl fun x230 => ?_
        refine r_aload_n (i := 31) rfl rfl rfl ?_
        refine r_iload (i := 32) rfl rfl rfl ?_
        refine r_iconst (i := 33) (2 : Int32) kc_iconst_2 rfl rfl ?_
        refine r_iadd (i := 34) rfl rfl ?_
        refine r_aI (i := 35) rfl rfl fun x236 => ?_
        refine r_aload_n (i := 36) rfl rfl rfl ?_
        refine r_iload (i := 37) rfl rfl rfl ?_
        refine r_iconst (i := 38) (3 : Int32) kc_iconst_3 rfl rfl ?_
        refine r_iadd (i := 39) rfl rfl ?_
        refine r_aI (i := 40) rfl rfl fun x242 => ?_
        refine r_aload_n (i := 41) rfl rfl rfl ?_
        refine r_iload (i := 42) rfl rfl rfl ?_
        refine r_iconst (i := 43) (4 : Int32) kc_iconst_4 rfl rfl ?_
        refine r_iadd (i := 44) rfl rfl ?_
        refine r_aI (i := 45) rfl rfl fun x248 => ?_
        refine r_aload_n (i := 46) rfl rfl rfl ?_
        refine r_iload (i := 47) rfl rfl rfl ?_
        refine r_iconst (i := 48) (5 : Int32) kc_iconst_5 rfl rfl ?_
        refine r_iadd (i := 49) rfl rfl ?_
        refine r_aI (i := 50) rfl rfl fun x254 => ?_
        refine r_VwI5 (i := 51) (k2 := 3 * nn + 3) (n2 := 285 * nn + 285) ok_Joy_feed wM_Law0_19 (c_Joy_feed F) (fun _ e => fw_ckb e) (Nat.le_of_ble_eq_true rfl) (by omega) (by omega) (Nat.le_of_ble_eq_true rfl) rfl rfl fun x255 => ?_
        refine r_aload_n (i := 52) rfl rfl rfl ?_
        refine r_aload_n (i := 53) rfl rfl rfl ?_
        refine r_iload (i := 54) rfl rfl rfl ?_
        refine r_iconst (i := 55) (1 : Int32) kc_iconst_1 rfl rfl ?_
        refine r_iadd (i := 56) rfl rfl ?_
        refine r_aI (i := 57) rfl rfl fun x264 => ?_
        refine r_aload_n (i := 58) rfl rfl rfl ?_
        refine r_iload (i := 59) rfl rfl rfl ?_
        refine r_iconst (i := 60) (2 : Int32) kc_iconst_2 rfl rfl ?_
        refine r_iadd (i := 61) rfl rfl ?_
        refine r_aI (i := 62) rfl rfl fun x270 => ?_
        refine r_aload_n (i := 63) rfl rfl rfl ?_
        refine r_iload (i := 64) rfl rfl rfl ?_
        refine r_iconst (i := 65) (3 : Int32) kc_iconst_3 rfl rfl ?_
        refine r_iadd (i := 66) rfl rfl ?_
        refine r_aI (i := 67) rfl rfl fun x276 => ?_
        refine r_aload_n (i := 68) rfl rfl rfl ?_
        refine r_iload (i := 69) rfl rfl rfl ?_
        refine r_iconst (i := 70) (4 : Int32) kc_iconst_4 rfl rfl ?_
        refine r_iadd (i := 71) rfl rfl ?_
        refine r_aI (i := 72) rfl rfl fun x282 => ?_
        refine r_aload_n (i := 73) rfl rfl rfl ?_
        refine r_iload (i := 74) rfl rfl rfl ?_
        refine r_iconst (i := 75) (5 : Int32) kc_iconst_5 rfl rfl ?_
        refine r_iadd (i := 76) rfl rfl ?_
        refine r_aI (i := 77) rfl rfl fun x288 => ?_
        refine r_VwI5 (i := 78) (k2 := 3 * nn + 3) (n2 := 285 * nn + 285) ok_Mod_feed wM_Law0_23 (c_Mod_feed F) (fun _ e => fw_ckb e) (Nat.le_of_ble_eq_true rfl) (by omega) (by omega) (Nat.le_of_ble_eq_true rfl) rfl rfl fun x289 => ?_
        refine r_icmp_eq (i := 79) (tgt := 1557) rfl rfl rfl ?_ ?_
        · refine r_iinc (i := 943) (6 : Int32) kc_iconst_6 rfl rfl rfl (Nat.le_of_ble_eq_true rfl) ?_
          refine r_goto (i := 944) (tgt := 23) rfl rfl rfl ?_
          refine r_wk (k2 := 3 * nn) (n2 := 285 * nn) (by omega) (by omega) ?_
          exact r_lv (fw_sub1 rfl (fw_sub1 rfl (fw_sub1 rfl (fw_sub1 rfl (fw_sub1 rfl fw_sub0))))) (ih (a23_4 + (6 : Int32)) x289.2)
        · refine r_iconst (i := 80) (0 : Int32) kc_iconst_0 rfl rfl ?_
          exact r_retB (x := false) (i := 81) rfl rfl rfl rfl
      · refine r_split (fun e40_1 => ?_) (fun n40_1 => ?_)
        · refine r_tinK (i := 24) (tgt := 297) (len := 184) (v := (1 : Int32)) (off := 257) e40_1 rfl rfl (by decide) (by decide) rfl ?_
          refine r_aload_n (i := 82) rfl rfl rfl ?_
          refine r_aload_n (i := 83) rfl rfl rfl ?_
          refine r_iload (i := 84) rfl rfl rfl ?_
          refine r_iconst (i := 85) (1 : Int32) kc_iconst_1 rfl rfl ?_
          refine r_iadd (i := 86) rfl rfl ?_
          refine r_aI (i := 87) rfl rfl fun x303 => ?_
          refine r_VwB1 (i := 88) (k2 := 3 * nn + 3) (n2 := 285 * nn + 285) ok_Joy_end wM_Law0_24 (c_Joy_end) (fun _ e => fw_ckb e) (Nat.le_of_ble_eq_true rfl) (by omega) (by omega) (Nat.le_of_ble_eq_true rfl) rfl rfl fun x304 => ?_
          refine r_aload_n (i := 89) rfl rfl rfl ?_
          refine r_aload_n (i := 90) rfl rfl rfl ?_
          refine r_iload (i := 91) rfl rfl rfl ?_
          refine r_iconst (i := 92) (1 : Int32) kc_iconst_1 rfl rfl ?_
          refine r_iadd (i := 93) rfl rfl ?_
          refine r_aI (i := 94) rfl rfl fun x313 => ?_
          refine r_VwB1 (i := 95) (k2 := 3 * nn + 3) (n2 := 285 * nn + 285) ok_Mod_end wM_Law0_28 (c_Mod_end) (fun _ e => fw_ckb e) (Nat.le_of_ble_eq_true rfl) (by omega) (by omega) (Nat.le_of_ble_eq_true rfl) rfl rfl fun x314 => ?_
          refine r_icmp_eq (i := 96) (tgt := 1557) rfl rfl rfl ?_ ?_
          · refine r_iinc (i := 943) (6 : Int32) kc_iconst_6 rfl rfl rfl (Nat.le_of_ble_eq_true rfl) ?_
            refine r_goto (i := 944) (tgt := 23) rfl rfl rfl ?_
            refine r_wk (k2 := 3 * nn) (n2 := 285 * nn) (by omega) (by omega) ?_
            exact r_lv (fw_sub1 rfl (fw_sub1 rfl (fw_sub1 rfl (fw_sub1 rfl (fw_sub1 rfl fw_sub0))))) (ih (a23_4 + (6 : Int32)) x314.2)
          · refine r_iconst (i := 97) (0 : Int32) kc_iconst_0 rfl rfl ?_
            exact r_retB (x := false) (i := 98) rfl rfl rfl rfl
        · refine r_split (fun e40_2 => ?_) (fun n40_2 => ?_)
          · refine r_tinK (i := 24) (tgt := 322) (len := 184) (v := (2 : Int32)) (off := 282) e40_2 rfl rfl (by decide) (by decide) rfl ?_
            refine r_aload_n (i := 99) rfl rfl rfl ?_
            refine r_aload_n (i := 100) rfl rfl rfl ?_
            refine r_iload (i := 101) rfl rfl rfl ?_
            refine r_iconst (i := 102) (1 : Int32) kc_iconst_1 rfl rfl ?_
            refine r_iadd (i := 103) rfl rfl ?_
            refine r_aI (i := 104) rfl rfl fun x328 => ?_
            refine r_VwI1 (i := 105) (k2 := 3 * nn + 3) (n2 := 285 * nn + 285) ok_Joy_fault wM_Law0_29 (c_Joy_fault F) (fun _ e => fw_ckb e) (Nat.le_of_ble_eq_true rfl) (by omega) (by omega) (Nat.le_of_ble_eq_true rfl) rfl rfl fun x329 => ?_
            refine r_aload_n (i := 106) rfl rfl rfl ?_
            refine r_aload_n (i := 107) rfl rfl rfl ?_
            refine r_iload (i := 108) rfl rfl rfl ?_
            refine r_iconst (i := 109) (1 : Int32) kc_iconst_1 rfl rfl ?_
            refine r_iadd (i := 110) rfl rfl ?_
            refine r_aI (i := 111) rfl rfl fun x338 => ?_
            refine r_VwI1 (i := 112) (k2 := 3 * nn + 3) (n2 := 285 * nn + 285) ok_Mod_fault wM_Law0_33 (c_Mod_fault F) (fun _ e => fw_ckb e) (Nat.le_of_ble_eq_true rfl) (by omega) (by omega) (Nat.le_of_ble_eq_true rfl) rfl rfl fun x339 => ?_
            refine r_icmp_eq (i := 113) (tgt := 1557) rfl rfl rfl ?_ ?_
            · refine r_iinc (i := 943) (6 : Int32) kc_iconst_6 rfl rfl rfl (Nat.le_of_ble_eq_true rfl) ?_
              refine r_goto (i := 944) (tgt := 23) rfl rfl rfl ?_
              refine r_wk (k2 := 3 * nn) (n2 := 285 * nn) (by omega) (by omega) ?_
              exact r_lv (fw_sub1 rfl (fw_sub1 rfl (fw_sub1 rfl (fw_sub1 rfl (fw_sub1 rfl fw_sub0))))) (ih (a23_4 + (6 : Int32)) x339.2)
            · refine r_iconst (i := 114) (0 : Int32) kc_iconst_0 rfl rfl ?_
              exact r_retB (x := false) (i := 115) rfl rfl rfl rfl
          · refine r_split (fun e40_3 => ?_) (fun n40_3 => ?_)
            · refine r_tinK (i := 24) (tgt := 347) (len := 184) (v := (3 : Int32)) (off := 307) e40_3 rfl rfl (by decide) (by decide) rfl ?_
              refine r_aload_n (i := 116) rfl rfl rfl ?_
              refine r_aload_n (i := 117) rfl rfl rfl ?_
              refine r_iload (i := 118) rfl rfl rfl ?_
              refine r_iconst (i := 119) (1 : Int32) kc_iconst_1 rfl rfl ?_
              refine r_iadd (i := 120) rfl rfl ?_
              refine r_aI (i := 121) rfl rfl fun x353 => ?_
              refine r_VwI1 (i := 122) (k2 := 3 * nn) (n2 := 285 * nn) ok_Joy_text wM_Law0_34 (c_Joy_text F) (fun _ e => fw_ckb e) (Nat.le_of_ble_eq_true rfl) (by omega) (by omega) (Nat.le_of_ble_eq_true rfl) rfl rfl fun x354 => ?_
              refine r_aload_n (i := 123) rfl rfl rfl ?_
              refine r_aload_n (i := 124) rfl rfl rfl ?_
              refine r_iload (i := 125) rfl rfl rfl ?_
              refine r_iconst (i := 126) (1 : Int32) kc_iconst_1 rfl rfl ?_
              refine r_iadd (i := 127) rfl rfl ?_
              refine r_aI (i := 128) rfl rfl fun x363 => ?_
              refine r_VwI1 (i := 129) (k2 := 3 * nn) (n2 := 285 * nn) ok_Mod_text wM_Law0_37 (c_Mod_text F) (fun _ e => fw_ckb e) (Nat.le_of_ble_eq_true rfl) (by omega) (by omega) (Nat.le_of_ble_eq_true rfl) rfl rfl fun x364 => ?_
              refine r_icmp_eq (i := 130) (tgt := 1557) rfl rfl rfl ?_ ?_
              · refine r_iinc (i := 943) (6 : Int32) kc_iconst_6 rfl rfl rfl (Nat.le_of_ble_eq_true rfl) ?_
                refine r_goto (i := 944) (tgt := 23) rfl rfl rfl ?_
                exact r_lv (fw_sub1 rfl (fw_sub1 rfl (fw_sub1 rfl (fw_sub1 rfl (fw_sub1 rfl fw_sub0))))) (ih (a23_4 + (6 : Int32)) x364.2)
              · refine r_iconst (i := 131) (0 : Int32) kc_iconst_0 rfl rfl ?_
                exact r_retB (x := false) (i := 132) rfl rfl rfl rfl
            · refine r_split (fun e40_4 => ?_) (fun n40_4 => ?_)
              · refine r_tinK (i := 24) (tgt := 372) (len := 184) (v := (4 : Int32)) (off := 332) e40_4 rfl rfl (by decide) (by decide) rfl ?_
                refine r_aload_n (i := 133) rfl rfl rfl ?_
                refine r_aload_n (i := 134) rfl rfl rfl ?_
                refine r_iload (i := 135) rfl rfl rfl ?_
                refine r_iconst (i := 136) (1 : Int32) kc_iconst_1 rfl rfl ?_
                refine r_iadd (i := 137) rfl rfl ?_
                refine r_aI (i := 138) rfl rfl fun x378 => ?_
                refine r_aload_n (i := 139) rfl rfl rfl ?_
                refine r_iload (i := 140) rfl rfl rfl ?_
                refine r_iconst (i := 141) (2 : Int32) kc_iconst_2 rfl rfl ?_
                refine r_iadd (i := 142) rfl rfl ?_
                refine r_aI (i := 143) rfl rfl fun x384 => ?_
                refine r_aload_n (i := 144) rfl rfl rfl ?_
                refine r_houseL (i := 145) (k2 := 3 * nn + 2) (n2 := 285 * nn + 277) wM_Law0_38 (Nat.le_of_ble_eq_true rfl) (by omega) (by omega) (Nat.le_of_ble_eq_true rfl) rfl rfl fun x386 => ?_
                refine r_istore (i := 146) rfl rfl (Nat.le_of_ble_eq_true rfl) rfl ?_
                refine r_aload_n (i := 147) rfl rfl rfl ?_
                refine r_aload_n (i := 148) rfl rfl rfl ?_
                refine r_iload (i := 149) rfl rfl rfl ?_
                refine r_iconst (i := 150) (1 : Int32) kc_iconst_1 rfl rfl ?_
                refine r_iadd (i := 151) rfl rfl ?_
                refine r_aI (i := 152) rfl rfl fun x397 => ?_
                refine r_aload_n (i := 153) rfl rfl rfl ?_
                refine r_iload (i := 154) rfl rfl rfl ?_
                refine r_iconst (i := 155) (2 : Int32) kc_iconst_2 rfl rfl ?_
                refine r_iadd (i := 156) rfl rfl ?_
                refine r_aI (i := 157) rfl rfl fun x403 => ?_
                refine r_VwI2 (i := 158) (k2 := 3 * nn + 2) (n2 := 285 * nn + 277) ok_Mod_house wM_Law0_43 (c_Mod_house) (fun _ e => fw_ckb e) (Nat.le_of_ble_eq_true rfl) (by omega) (by omega) (Nat.le_of_ble_eq_true rfl) rfl rfl fun x404 => ?_
                refine r_istore (i := 159) rfl rfl (Nat.le_of_ble_eq_true rfl) rfl ?_
                refine r_aload_n (i := 160) rfl rfl rfl ?_
                refine r_VI0 (i := 161) (k2 := 3 * nn + 2) (n2 := 285 * nn + 277) ok_Mod_thrown wM_Law0_44 (c_Mod_thrown) (fun _ e => fw_ckb e) (Nat.le_of_ble_eq_true rfl) (by omega) (by omega) (Nat.le_of_ble_eq_true rfl) rfl rfl fun x410 => ?_
                refine r_iload (i := 162) rfl rfl rfl ?_
                refine r_icmp_eq (i := 163) (tgt := 420) rfl rfl rfl ?_ ?_
                · refine r_iload (i := 166) rfl rfl rfl ?_
                  refine r_if_ne (i := 167) (tgt := 437) rfl rfl rfl ?_ ?_
                  · refine r_goto (i := 177) (tgt := 1557) rfl rfl rfl ?_
                    refine r_iinc (i := 943) (6 : Int32) kc_iconst_6 rfl rfl rfl (Nat.le_of_ble_eq_true rfl) ?_
                    refine r_goto (i := 944) (tgt := 23) rfl rfl rfl ?_
                    refine r_wk (k2 := 3 * nn) (n2 := 285 * nn) (by omega) (by omega) ?_
                    exact r_lv (fw_sub1 rfl (fw_sub1 rfl (fw_sub1 rfl (fw_sub1 rfl (fw_sub1 rfl fw_sub0))))) (ih (a23_4 + (6 : Int32)) x404.2)
                  · refine r_aload_n (i := 168) rfl rfl rfl ?_
                    refine r_iconst (i := 169) (0 : Int32) kc_iconst_0 rfl rfl ?_
                    refine r_aJ (i := 170) rfl rfl fun x427 => ?_
                    refine r_iload (i := 171) rfl rfl rfl ?_
                    refine r_i2l (i := 172) rfl rfl ?_
                    refine r_lcmp (i := 173) rfl rfl ?_
                    refine r_if_eq (i := 174) (tgt := 437) rfl rfl rfl ?_ ?_
                    · refine r_goto (i := 177) (tgt := 1557) rfl rfl rfl ?_
                      refine r_iinc (i := 943) (6 : Int32) kc_iconst_6 rfl rfl rfl (Nat.le_of_ble_eq_true rfl) ?_
                      refine r_goto (i := 944) (tgt := 23) rfl rfl rfl ?_
                      refine r_wk (k2 := 3 * nn) (n2 := 285 * nn) (by omega) (by omega) ?_
                      exact r_lv (fw_sub1 rfl (fw_sub1 rfl (fw_sub1 rfl (fw_sub1 rfl (fw_sub1 rfl fw_sub0))))) (ih (a23_4 + (6 : Int32)) x404.2)
                    · refine r_iconst (i := 175) (0 : Int32) kc_iconst_0 rfl rfl ?_
                      exact r_retB (x := false) (i := 176) rfl rfl rfl rfl
                · refine r_iconst (i := 164) (0 : Int32) kc_iconst_0 rfl rfl ?_
                  exact r_retB (x := false) (i := 165) rfl rfl rfl rfl
              · refine r_split (fun e40_5 => ?_) (fun n40_5 => ?_)
                · refine r_tinK (i := 24) (tgt := 440) (len := 184) (v := (5 : Int32)) (off := 400) e40_5 rfl rfl (by decide) (by decide) rfl ?_
                  refine r_aload_n (i := 178) rfl rfl rfl ?_
                  refine r_aload_n (i := 179) rfl rfl rfl ?_
                  refine r_iload (i := 180) rfl rfl rfl ?_
                  refine r_iconst (i := 181) (1 : Int32) kc_iconst_1 rfl rfl ?_
                  refine r_iadd (i := 182) rfl rfl ?_
                  refine r_aI (i := 183) rfl rfl fun x446 => ?_
                  refine r_aload_n (i := 184) rfl rfl rfl ?_
                  refine r_iload (i := 185) rfl rfl rfl ?_
                  refine r_iconst (i := 186) (2 : Int32) kc_iconst_2 rfl rfl ?_
                  refine r_iadd (i := 187) rfl rfl ?_
                  refine r_aI (i := 188) rfl rfl fun x452 => ?_
                  refine r_VI2 (i := 189) (k2 := 3 * nn + 3) (n2 := 285 * nn + 285) ok_Joy_window wM_Law0_48 (c_Joy_window) (fun _ e => fw_ckb e) (Nat.le_of_ble_eq_true rfl) (by omega) (by omega) (Nat.le_of_ble_eq_true rfl) rfl rfl fun x453 => ?_
                  refine r_aload_n (i := 190) rfl rfl rfl ?_
                  refine r_aload_n (i := 191) rfl rfl rfl ?_
                  refine r_iload (i := 192) rfl rfl rfl ?_
                  refine r_iconst (i := 193) (1 : Int32) kc_iconst_1 rfl rfl ?_
                  refine r_iadd (i := 194) rfl rfl ?_
                  refine r_aI (i := 195) rfl rfl fun x462 => ?_
                  refine r_aload_n (i := 196) rfl rfl rfl ?_
                  refine r_iload (i := 197) rfl rfl rfl ?_
                  refine r_iconst (i := 198) (2 : Int32) kc_iconst_2 rfl rfl ?_
                  refine r_iadd (i := 199) rfl rfl ?_
                  refine r_aI (i := 200) rfl rfl fun x468 => ?_
                  refine r_VI2 (i := 201) (k2 := 3 * nn + 3) (n2 := 285 * nn + 285) ok_Mod_window wM_Law0_51 (c_Mod_window) (fun _ e => fw_ckb e) (Nat.le_of_ble_eq_true rfl) (by omega) (by omega) (Nat.le_of_ble_eq_true rfl) rfl rfl fun x469 => ?_
                  refine r_icmp_eq (i := 202) (tgt := 1557) rfl rfl rfl ?_ ?_
                  · refine r_iinc (i := 943) (6 : Int32) kc_iconst_6 rfl rfl rfl (Nat.le_of_ble_eq_true rfl) ?_
                    refine r_goto (i := 944) (tgt := 23) rfl rfl rfl ?_
                    refine r_wk (k2 := 3 * nn) (n2 := 285 * nn) (by omega) (by omega) ?_
                    exact r_lv (fw_sub1 rfl (fw_sub1 rfl (fw_sub1 rfl (fw_sub1 rfl (fw_sub1 rfl fw_sub0))))) (ih (a23_4 + (6 : Int32)) g23)
                  · refine r_iconst (i := 203) (0 : Int32) kc_iconst_0 rfl rfl ?_
                    exact r_retB (x := false) (i := 204) rfl rfl rfl rfl
                · refine r_split (fun e40_6 => ?_) (fun n40_6 => ?_)
                  · refine r_tinK (i := 24) (tgt := 477) (len := 184) (v := (6 : Int32)) (off := 437) e40_6 rfl rfl (by decide) (by decide) rfl ?_
                    refine r_aload_n (i := 205) rfl rfl rfl ?_
                    refine r_aload_n (i := 206) rfl rfl rfl ?_
                    refine r_iload (i := 207) rfl rfl rfl ?_
                    refine r_iconst (i := 208) (1 : Int32) kc_iconst_1 rfl rfl ?_
                    refine r_iadd (i := 209) rfl rfl ?_
                    refine r_aI (i := 210) rfl rfl fun x483 => ?_
                    refine r_VwB1 (i := 211) (k2 := 3 * nn + 3) (n2 := 285 * nn + 285) ok_Joy_law wM_Law0_52 (c_Joy_law) (fun _ e => fw_ckb e) (Nat.le_of_ble_eq_true rfl) (by omega) (by omega) (Nat.le_of_ble_eq_true rfl) rfl rfl fun x484 => ?_
                    refine r_aload_n (i := 212) rfl rfl rfl ?_
                    refine r_aload_n (i := 213) rfl rfl rfl ?_
                    refine r_iload (i := 214) rfl rfl rfl ?_
                    refine r_iconst (i := 215) (1 : Int32) kc_iconst_1 rfl rfl ?_
                    refine r_iadd (i := 216) rfl rfl ?_
                    refine r_aI (i := 217) rfl rfl fun x493 => ?_
                    refine r_VwB1 (i := 218) (k2 := 3 * nn + 3) (n2 := 285 * nn + 285) ok_Mod_law wM_Law0_55 (c_Mod_law) (fun _ e => fw_ckb e) (Nat.le_of_ble_eq_true rfl) (by omega) (by omega) (Nat.le_of_ble_eq_true rfl) rfl rfl fun x494 => ?_
                    refine r_icmp_eq (i := 219) (tgt := 1557) rfl rfl rfl ?_ ?_
                    · refine r_iinc (i := 943) (6 : Int32) kc_iconst_6 rfl rfl rfl (Nat.le_of_ble_eq_true rfl) ?_
                      refine r_goto (i := 944) (tgt := 23) rfl rfl rfl ?_
                      refine r_wk (k2 := 3 * nn) (n2 := 285 * nn) (by omega) (by omega) ?_
                      exact r_lv (fw_sub1 rfl (fw_sub1 rfl (fw_sub1 rfl (fw_sub1 rfl (fw_sub1 rfl fw_sub0))))) (ih (a23_4 + (6 : Int32)) x494.2)
                    · refine r_iconst (i := 220) (0 : Int32) kc_iconst_0 rfl rfl ?_
                      exact r_retB (x := false) (i := 221) rfl rfl rfl rfl
                  · refine r_split (fun e40_7 => ?_) (fun n40_7 => ?_)
                    · refine r_tinK (i := 24) (tgt := 502) (len := 184) (v := (7 : Int32)) (off := 462) e40_7 rfl rfl (by decide) (by decide) rfl ?_
                      refine r_aload_n (i := 222) rfl rfl rfl ?_
                      refine r_aload_n (i := 223) rfl rfl rfl ?_
                      refine r_iload (i := 224) rfl rfl rfl ?_
                      refine r_iconst (i := 225) (1 : Int32) kc_iconst_1 rfl rfl ?_
                      refine r_iadd (i := 226) rfl rfl ?_
                      refine r_aI (i := 227) rfl rfl fun x508 => ?_
                      refine r_VwI1 (i := 228) (k2 := 3 * nn + 3) (n2 := 285 * nn + 285) ok_Joy_wish wM_Law0_56 (c_Joy_wish F) (fun _ e => fw_ckb e) (Nat.le_of_ble_eq_true rfl) (by omega) (by omega) (Nat.le_of_ble_eq_true rfl) rfl rfl fun x509 => ?_
                      refine r_aload_n (i := 229) rfl rfl rfl ?_
                      refine r_aload_n (i := 230) rfl rfl rfl ?_
                      refine r_iload (i := 231) rfl rfl rfl ?_
                      refine r_iconst (i := 232) (1 : Int32) kc_iconst_1 rfl rfl ?_
                      refine r_iadd (i := 233) rfl rfl ?_
                      refine r_aI (i := 234) rfl rfl fun x518 => ?_
                      refine r_VwI1 (i := 235) (k2 := 3 * nn + 3) (n2 := 285 * nn + 285) ok_Mod_wish wM_Law0_59 (c_Mod_wish F) (fun _ e => fw_ckb e) (Nat.le_of_ble_eq_true rfl) (by omega) (by omega) (Nat.le_of_ble_eq_true rfl) rfl rfl fun x519 => ?_
                      refine r_icmp_eq (i := 236) (tgt := 1557) rfl rfl rfl ?_ ?_
                      · refine r_iinc (i := 943) (6 : Int32) kc_iconst_6 rfl rfl rfl (Nat.le_of_ble_eq_true rfl) ?_
                        refine r_goto (i := 944) (tgt := 23) rfl rfl rfl ?_
                        refine r_wk (k2 := 3 * nn) (n2 := 285 * nn) (by omega) (by omega) ?_
                        exact r_lv (fw_sub1 rfl (fw_sub1 rfl (fw_sub1 rfl (fw_sub1 rfl (fw_sub1 rfl fw_sub0))))) (ih (a23_4 + (6 : Int32)) x519.2)
                      · refine r_iconst (i := 237) (0 : Int32) kc_iconst_0 rfl rfl ?_
                        exact r_retB (x := false) (i := 238) rfl rfl rfl rfl
                    · refine r_split (fun e40_8 => ?_) (fun n40_8 => ?_)
                      · refine r_tinK (i := 24) (tgt := 527) (len := 184) (v := (8 : Int32)) (off := 487) e40_8 rfl rfl (by decide) (by decide) rfl ?_
                        refine r_aload_n (i := 239) rfl rfl rfl ?_
                        refine r_aload_n (i := 240) rfl rfl rfl ?_
                        refine r_iload (i := 241) rfl rfl rfl ?_
                        refine r_iconst (i := 242) (1 : Int32) kc_iconst_1 rfl rfl ?_
                        refine r_iadd (i := 243) rfl rfl ?_
                        refine r_aI (i := 244) rfl rfl fun x533 => ?_
                        refine r_aload_n (i := 245) rfl rfl rfl ?_
                        refine r_iload (i := 246) rfl rfl rfl ?_
                        refine r_iconst (i := 247) (2 : Int32) kc_iconst_2 rfl rfl ?_
                        refine r_iadd (i := 248) rfl rfl ?_
                        refine r_aI (i := 249) rfl rfl fun x539 => ?_
                        refine r_join (P := fun J548 => ∀ (t548_2 : Int32), fw_R G m_Law0_law fw_wB 170 (3 * nn + 3) (285 * nn + 285) 548 [(0, some (fw_r v0)), (1, some (fw_r q0)), (2, some (fw_r q8)), (3, some (fw_r q17)), (4, some (fw_i a23_4))] [fw_i t548_2, fw_i x533, fw_r q0] g23 (J548 t548_2)) ?_ (fun J548 hJ548 => ?_)
                        · intro t548_2
                          refine r_toB fun b548 eb548 => ?_
                          refine r_VwB2 (i := 254) (k2 := 3 * nn + 3) (n2 := 285 * nn + 285) ok_Joy_turn wM_Law0_60 (c_Joy_turn) (fun _ e => fw_ckb e) (Nat.le_of_ble_eq_true rfl) (by omega) (by omega) (Nat.le_of_ble_eq_true rfl) rfl rfl fun x548 => ?_
                          refine r_aload_n (i := 255) rfl rfl rfl ?_
                          refine r_aload_n (i := 256) rfl rfl rfl ?_
                          refine r_iload (i := 257) rfl rfl rfl ?_
                          refine r_iconst (i := 258) (1 : Int32) kc_iconst_1 rfl rfl ?_
                          refine r_iadd (i := 259) rfl rfl ?_
                          refine r_aI (i := 260) rfl rfl fun x557 => ?_
                          refine r_aload_n (i := 261) rfl rfl rfl ?_
                          refine r_iload (i := 262) rfl rfl rfl ?_
                          refine r_iconst (i := 263) (2 : Int32) kc_iconst_2 rfl rfl ?_
                          refine r_iadd (i := 264) rfl rfl ?_
                          refine r_aI (i := 265) rfl rfl fun x563 => ?_
                          refine r_if_eq (i := 266) (tgt := 571) rfl rfl rfl ?_ ?_
                          · refine r_iconst (i := 269) (0 : Int32) kc_iconst_0 rfl rfl ?_
                            refine r_VwB2 (i := 270) (k2 := 3 * nn + 3) (n2 := 285 * nn + 285) ok_Mod_turn wM_Law0_64 (c_Mod_turn F (v2 := false)) (fun _ e => fw_ckb e) (Nat.le_of_ble_eq_true rfl) (by omega) (by omega) (Nat.le_of_ble_eq_true rfl) rfl rfl fun x572 => ?_
                            refine r_icmp_eq (i := 271) (tgt := 1557) rfl rfl rfl ?_ ?_
                            · refine r_iinc (i := 943) (6 : Int32) kc_iconst_6 rfl rfl rfl (Nat.le_of_ble_eq_true rfl) ?_
                              refine r_goto (i := 944) (tgt := 23) rfl rfl rfl ?_
                              refine r_wk (k2 := 3 * nn) (n2 := 285 * nn) (by omega) (by omega) ?_
                              exact r_lv (fw_sub1 rfl (fw_sub1 rfl (fw_sub1 rfl (fw_sub1 rfl (fw_sub1 rfl fw_sub0))))) (ih (a23_4 + (6 : Int32)) x572.2)
                            · refine r_iconst (i := 272) (0 : Int32) kc_iconst_0 rfl rfl ?_
                              exact r_retB (x := false) (i := 273) rfl rfl rfl rfl
                          · refine r_iconst (i := 267) (1 : Int32) kc_iconst_1 rfl rfl ?_
                            refine r_goto (i := 268) (tgt := 572) rfl rfl rfl ?_
                            refine r_VwB2 (i := 270) (k2 := 3 * nn + 3) (n2 := 285 * nn + 285) ok_Mod_turn wM_Law0_64 (c_Mod_turn F (v2 := true)) (fun _ e => fw_ckb e) (Nat.le_of_ble_eq_true rfl) (by omega) (by omega) (Nat.le_of_ble_eq_true rfl) rfl rfl fun x572 => ?_
                            refine r_icmp_eq (i := 271) (tgt := 1557) rfl rfl rfl ?_ ?_
                            · refine r_iinc (i := 943) (6 : Int32) kc_iconst_6 rfl rfl rfl (Nat.le_of_ble_eq_true rfl) ?_
                              refine r_goto (i := 944) (tgt := 23) rfl rfl rfl ?_
                              refine r_wk (k2 := 3 * nn) (n2 := 285 * nn) (by omega) (by omega) ?_
                              exact r_lv (fw_sub1 rfl (fw_sub1 rfl (fw_sub1 rfl (fw_sub1 rfl (fw_sub1 rfl fw_sub0))))) (ih (a23_4 + (6 : Int32)) x572.2)
                            · refine r_iconst (i := 272) (0 : Int32) kc_iconst_0 rfl rfl ?_
                              exact r_retB (x := false) (i := 273) rfl rfl rfl rfl
                        · refine r_if_eq (i := 250) (tgt := 547) rfl rfl rfl ?_ ?_
                          · refine r_iconst (i := 253) (0 : Int32) kc_iconst_0 rfl rfl ?_
                            exact r_lv (fw_sub1 rfl (fw_sub1 rfl (fw_sub1 rfl (fw_sub1 rfl (fw_sub1 rfl fw_sub0))))) (hJ548 (0 : Int32))
                          · refine r_iconst (i := 251) (1 : Int32) kc_iconst_1 rfl rfl ?_
                            refine r_goto (i := 252) (tgt := 548) rfl rfl rfl ?_
                            exact r_lv (fw_sub1 rfl (fw_sub1 rfl (fw_sub1 rfl (fw_sub1 rfl (fw_sub1 rfl fw_sub0))))) (hJ548 (1 : Int32))
                      · refine r_split (fun e40_9 => ?_) (fun n40_9 => ?_)
                        · refine r_tinK (i := 24) (tgt := 580) (len := 184) (v := (9 : Int32)) (off := 540) e40_9 rfl rfl (by decide) (by decide) rfl ?_
                          refine r_aload_n (i := 274) rfl rfl rfl ?_
                          refine r_aload_n (i := 275) rfl rfl rfl ?_
                          refine r_iload (i := 276) rfl rfl rfl ?_
                          refine r_iconst (i := 277) (1 : Int32) kc_iconst_1 rfl rfl ?_
                          refine r_iadd (i := 278) rfl rfl ?_
                          refine r_aI (i := 279) rfl rfl fun x586 => ?_
                          refine r_aload_n (i := 280) rfl rfl rfl ?_
                          refine r_iload (i := 281) rfl rfl rfl ?_
                          refine r_iconst (i := 282) (2 : Int32) kc_iconst_2 rfl rfl ?_
                          refine r_iadd (i := 283) rfl rfl ?_
                          refine r_aI (i := 284) rfl rfl fun x592 => ?_
                          refine r_join (P := fun J601 => ∀ (t601_2 : Int32), fw_R G m_Law0_law fw_wB 170 (3 * nn + 3) (285 * nn + 285) 601 [(0, some (fw_r v0)), (1, some (fw_r q0)), (2, some (fw_r q8)), (3, some (fw_r q17)), (4, some (fw_i a23_4))] [fw_i t601_2, fw_i x586, fw_r q0] g23 (J601 t601_2)) ?_ (fun J601 hJ601 => ?_)
                          · intro t601_2
                            refine r_toB fun b601 eb601 => ?_
                            refine r_VwB2 (i := 289) (k2 := 3 * nn + 3) (n2 := 285 * nn + 285) ok_Joy_shut wM_Law0_65 (c_Joy_shut) (fun _ e => fw_ckb e) (Nat.le_of_ble_eq_true rfl) (by omega) (by omega) (Nat.le_of_ble_eq_true rfl) rfl rfl fun x601 => ?_
                            refine r_aload_n (i := 290) rfl rfl rfl ?_
                            refine r_aload_n (i := 291) rfl rfl rfl ?_
                            refine r_iload (i := 292) rfl rfl rfl ?_
                            refine r_iconst (i := 293) (1 : Int32) kc_iconst_1 rfl rfl ?_
                            refine r_iadd (i := 294) rfl rfl ?_
                            refine r_aI (i := 295) rfl rfl fun x610 => ?_
                            refine r_aload_n (i := 296) rfl rfl rfl ?_
                            refine r_iload (i := 297) rfl rfl rfl ?_
                            refine r_iconst (i := 298) (2 : Int32) kc_iconst_2 rfl rfl ?_
                            refine r_iadd (i := 299) rfl rfl ?_
                            refine r_aI (i := 300) rfl rfl fun x616 => ?_
                            refine r_if_eq (i := 301) (tgt := 624) rfl rfl rfl ?_ ?_
                            · refine r_iconst (i := 304) (0 : Int32) kc_iconst_0 rfl rfl ?_
                              refine r_VwB2 (i := 305) (k2 := 3 * nn + 3) (n2 := 285 * nn + 285) ok_Mod_shut wM_Law0_68 (c_Mod_shut F (v2 := false)) (fun _ e => fw_ckb e) (Nat.le_of_ble_eq_true rfl) (by omega) (by omega) (Nat.le_of_ble_eq_true rfl) rfl rfl fun x625 => ?_
                              refine r_icmp_eq (i := 306) (tgt := 1557) rfl rfl rfl ?_ ?_
                              · refine r_iinc (i := 943) (6 : Int32) kc_iconst_6 rfl rfl rfl (Nat.le_of_ble_eq_true rfl) ?_
                                refine r_goto (i := 944) (tgt := 23) rfl rfl rfl ?_
                                refine r_wk (k2 := 3 * nn) (n2 := 285 * nn) (by omega) (by omega) ?_
                                exact r_lv (fw_sub1 rfl (fw_sub1 rfl (fw_sub1 rfl (fw_sub1 rfl (fw_sub1 rfl fw_sub0))))) (ih (a23_4 + (6 : Int32)) x625.2)
                              · refine r_iconst (i := 307) (0 : Int32) kc_iconst_0 rfl rfl ?_
                                exact r_retB (x := false) (i := 308) rfl rfl rfl rfl
                            · refine r_iconst (i := 302) (1 : Int32) kc_iconst_1 rfl rfl ?_
                              refine r_goto (i := 303) (tgt := 625) rfl rfl rfl ?_
                              refine r_VwB2 (i := 305) (k2 := 3 * nn + 3) (n2 := 285 * nn + 285) ok_Mod_shut wM_Law0_68 (c_Mod_shut F (v2 := true)) (fun _ e => fw_ckb e) (Nat.le_of_ble_eq_true rfl) (by omega) (by omega) (Nat.le_of_ble_eq_true rfl) rfl rfl fun x625 => ?_
                              refine r_icmp_eq (i := 306) (tgt := 1557) rfl rfl rfl ?_ ?_
                              · refine r_iinc (i := 943) (6 : Int32) kc_iconst_6 rfl rfl rfl (Nat.le_of_ble_eq_true rfl) ?_
                                refine r_goto (i := 944) (tgt := 23) rfl rfl rfl ?_
                                refine r_wk (k2 := 3 * nn) (n2 := 285 * nn) (by omega) (by omega) ?_
                                exact r_lv (fw_sub1 rfl (fw_sub1 rfl (fw_sub1 rfl (fw_sub1 rfl (fw_sub1 rfl fw_sub0))))) (ih (a23_4 + (6 : Int32)) x625.2)
                              · refine r_iconst (i := 307) (0 : Int32) kc_iconst_0 rfl rfl ?_
                                exact r_retB (x := false) (i := 308) rfl rfl rfl rfl
                          · refine r_if_eq (i := 285) (tgt := 600) rfl rfl rfl ?_ ?_
                            · refine r_iconst (i := 288) (0 : Int32) kc_iconst_0 rfl rfl ?_
                              exact r_lv (fw_sub1 rfl (fw_sub1 rfl (fw_sub1 rfl (fw_sub1 rfl (fw_sub1 rfl fw_sub0))))) (hJ601 (0 : Int32))
                            · refine r_iconst (i := 286) (1 : Int32) kc_iconst_1 rfl rfl ?_
                              refine r_goto (i := 287) (tgt := 601) rfl rfl rfl ?_
                              exact r_lv (fw_sub1 rfl (fw_sub1 rfl (fw_sub1 rfl (fw_sub1 rfl (fw_sub1 rfl fw_sub0))))) (hJ601 (1 : Int32))
                        · refine r_split (fun e40_10 => ?_) (fun n40_10 => ?_)
                          · refine r_tinK (i := 24) (tgt := 633) (len := 184) (v := (10 : Int32)) (off := 593) e40_10 rfl rfl (by decide) (by decide) rfl ?_
                            refine r_aload_n (i := 309) rfl rfl rfl ?_
                            refine r_aload_n (i := 310) rfl rfl rfl ?_
                            refine r_iload (i := 311) rfl rfl rfl ?_
                            refine r_iconst (i := 312) (1 : Int32) kc_iconst_1 rfl rfl ?_
                            refine r_iadd (i := 313) rfl rfl ?_
                            refine r_aI (i := 314) rfl rfl fun x639 => ?_
                            refine r_join (P := fun J648 => ∀ (t648_1 : Int32), fw_R G m_Law0_law fw_wB 170 (3 * nn + 3) (285 * nn + 285) 648 [(0, some (fw_r v0)), (1, some (fw_r q0)), (2, some (fw_r q8)), (3, some (fw_r q17)), (4, some (fw_i a23_4))] [fw_i t648_1, fw_r q0] g23 (J648 t648_1)) ?_ (fun J648 hJ648 => ?_)
                            · intro t648_1
                              refine r_toB fun b648 eb648 => ?_
                              refine r_VwB1 (i := 319) (k2 := 3 * nn + 3) (n2 := 285 * nn + 285) ok_Joy_music wM_Law0_69 (c_Joy_music) (fun _ e => fw_ckb e) (Nat.le_of_ble_eq_true rfl) (by omega) (by omega) (Nat.le_of_ble_eq_true rfl) rfl rfl fun x648 => ?_
                              refine r_aload_n (i := 320) rfl rfl rfl ?_
                              refine r_aload_n (i := 321) rfl rfl rfl ?_
                              refine r_iload (i := 322) rfl rfl rfl ?_
                              refine r_iconst (i := 323) (1 : Int32) kc_iconst_1 rfl rfl ?_
                              refine r_iadd (i := 324) rfl rfl ?_
                              refine r_aI (i := 325) rfl rfl fun x657 => ?_
                              refine r_if_eq (i := 326) (tgt := 665) rfl rfl rfl ?_ ?_
                              · refine r_iconst (i := 329) (0 : Int32) kc_iconst_0 rfl rfl ?_
                                refine r_VwB1 (i := 330) (k2 := 3 * nn + 3) (n2 := 285 * nn + 285) ok_Mod_music wM_Law0_73 (c_Mod_music F (v1 := false)) (fun _ e => fw_ckb e) (Nat.le_of_ble_eq_true rfl) (by omega) (by omega) (Nat.le_of_ble_eq_true rfl) rfl rfl fun x666 => ?_
                                refine r_icmp_eq (i := 331) (tgt := 1557) rfl rfl rfl ?_ ?_
                                · refine r_iinc (i := 943) (6 : Int32) kc_iconst_6 rfl rfl rfl (Nat.le_of_ble_eq_true rfl) ?_
                                  refine r_goto (i := 944) (tgt := 23) rfl rfl rfl ?_
                                  refine r_wk (k2 := 3 * nn) (n2 := 285 * nn) (by omega) (by omega) ?_
                                  exact r_lv (fw_sub1 rfl (fw_sub1 rfl (fw_sub1 rfl (fw_sub1 rfl (fw_sub1 rfl fw_sub0))))) (ih (a23_4 + (6 : Int32)) x666.2)
                                · refine r_iconst (i := 332) (0 : Int32) kc_iconst_0 rfl rfl ?_
                                  exact r_retB (x := false) (i := 333) rfl rfl rfl rfl
                              · refine r_iconst (i := 327) (1 : Int32) kc_iconst_1 rfl rfl ?_
                                refine r_goto (i := 328) (tgt := 666) rfl rfl rfl ?_
                                refine r_VwB1 (i := 330) (k2 := 3 * nn + 3) (n2 := 285 * nn + 285) ok_Mod_music wM_Law0_73 (c_Mod_music F (v1 := true)) (fun _ e => fw_ckb e) (Nat.le_of_ble_eq_true rfl) (by omega) (by omega) (Nat.le_of_ble_eq_true rfl) rfl rfl fun x666 => ?_
                                refine r_icmp_eq (i := 331) (tgt := 1557) rfl rfl rfl ?_ ?_
                                · refine r_iinc (i := 943) (6 : Int32) kc_iconst_6 rfl rfl rfl (Nat.le_of_ble_eq_true rfl) ?_
                                  refine r_goto (i := 944) (tgt := 23) rfl rfl rfl ?_
                                  refine r_wk (k2 := 3 * nn) (n2 := 285 * nn) (by omega) (by omega) ?_
                                  exact r_lv (fw_sub1 rfl (fw_sub1 rfl (fw_sub1 rfl (fw_sub1 rfl (fw_sub1 rfl fw_sub0))))) (ih (a23_4 + (6 : Int32)) x666.2)
                                · refine r_iconst (i := 332) (0 : Int32) kc_iconst_0 rfl rfl ?_
                                  exact r_retB (x := false) (i := 333) rfl rfl rfl rfl
                            · refine r_if_eq (i := 315) (tgt := 647) rfl rfl rfl ?_ ?_
                              · refine r_iconst (i := 318) (0 : Int32) kc_iconst_0 rfl rfl ?_
                                exact r_lv (fw_sub1 rfl (fw_sub1 rfl (fw_sub1 rfl (fw_sub1 rfl (fw_sub1 rfl fw_sub0))))) (hJ648 (0 : Int32))
                              · refine r_iconst (i := 316) (1 : Int32) kc_iconst_1 rfl rfl ?_
                                refine r_goto (i := 317) (tgt := 648) rfl rfl rfl ?_
                                exact r_lv (fw_sub1 rfl (fw_sub1 rfl (fw_sub1 rfl (fw_sub1 rfl (fw_sub1 rfl fw_sub0))))) (hJ648 (1 : Int32))
                          · refine r_split (fun e40_11 => ?_) (fun n40_11 => ?_)
                            · refine r_tinK (i := 24) (tgt := 674) (len := 184) (v := (11 : Int32)) (off := 634) e40_11 rfl rfl (by decide) (by decide) rfl ?_
                              refine r_aload_n (i := 334) rfl rfl rfl ?_
                              refine r_aload_n (i := 335) rfl rfl rfl ?_
                              refine r_iload (i := 336) rfl rfl rfl ?_
                              refine r_iconst (i := 337) (1 : Int32) kc_iconst_1 rfl rfl ?_
                              refine r_iadd (i := 338) rfl rfl ?_
                              refine r_aI (i := 339) rfl rfl fun x680 => ?_
                              refine r_join (P := fun J689 => ∀ (t689_1 : Int32), fw_R G m_Law0_law fw_wB 170 (3 * nn + 3) (285 * nn + 285) 689 [(0, some (fw_r v0)), (1, some (fw_r q0)), (2, some (fw_r q8)), (3, some (fw_r q17)), (4, some (fw_i a23_4))] [fw_i t689_1, fw_r q0] g23 (J689 t689_1)) ?_ (fun J689 hJ689 => ?_)
                              · intro t689_1
                                refine r_toB fun b689 eb689 => ?_
                                refine r_VwB1 (i := 344) (k2 := 3 * nn + 3) (n2 := 285 * nn + 285) ok_Joy_fog wM_Law0_74 (c_Joy_fog) (fun _ e => fw_ckb e) (Nat.le_of_ble_eq_true rfl) (by omega) (by omega) (Nat.le_of_ble_eq_true rfl) rfl rfl fun x689 => ?_
                                refine r_aload_n (i := 345) rfl rfl rfl ?_
                                refine r_aload_n (i := 346) rfl rfl rfl ?_
                                refine r_iload (i := 347) rfl rfl rfl ?_
                                refine r_iconst (i := 348) (1 : Int32) kc_iconst_1 rfl rfl ?_
                                refine r_iadd (i := 349) rfl rfl ?_
                                refine r_aI (i := 350) rfl rfl fun x698 => ?_
                                refine r_if_eq (i := 351) (tgt := 706) rfl rfl rfl ?_ ?_
                                · refine r_iconst (i := 354) (0 : Int32) kc_iconst_0 rfl rfl ?_
                                  refine r_VwB1 (i := 355) (k2 := 3 * nn + 3) (n2 := 285 * nn + 285) ok_Mod_fog wM_Law0_77 (c_Mod_fog F (v1 := false)) (fun _ e => fw_ckb e) (Nat.le_of_ble_eq_true rfl) (by omega) (by omega) (Nat.le_of_ble_eq_true rfl) rfl rfl fun x707 => ?_
                                  refine r_icmp_eq (i := 356) (tgt := 1557) rfl rfl rfl ?_ ?_
                                  · refine r_iinc (i := 943) (6 : Int32) kc_iconst_6 rfl rfl rfl (Nat.le_of_ble_eq_true rfl) ?_
                                    refine r_goto (i := 944) (tgt := 23) rfl rfl rfl ?_
                                    refine r_wk (k2 := 3 * nn) (n2 := 285 * nn) (by omega) (by omega) ?_
                                    exact r_lv (fw_sub1 rfl (fw_sub1 rfl (fw_sub1 rfl (fw_sub1 rfl (fw_sub1 rfl fw_sub0))))) (ih (a23_4 + (6 : Int32)) x707.2)
                                  · refine r_iconst (i := 357) (0 : Int32) kc_iconst_0 rfl rfl ?_
                                    exact r_retB (x := false) (i := 358) rfl rfl rfl rfl
                                · refine r_iconst (i := 352) (1 : Int32) kc_iconst_1 rfl rfl ?_
                                  refine r_goto (i := 353) (tgt := 707) rfl rfl rfl ?_
                                  refine r_VwB1 (i := 355) (k2 := 3 * nn + 3) (n2 := 285 * nn + 285) ok_Mod_fog wM_Law0_77 (c_Mod_fog F (v1 := true)) (fun _ e => fw_ckb e) (Nat.le_of_ble_eq_true rfl) (by omega) (by omega) (Nat.le_of_ble_eq_true rfl) rfl rfl fun x707 => ?_
                                  refine r_icmp_eq (i := 356) (tgt := 1557) rfl rfl rfl ?_ ?_
                                  · refine r_iinc (i := 943) (6 : Int32) kc_iconst_6 rfl rfl rfl (Nat.le_of_ble_eq_true rfl) ?_
                                    refine r_goto (i := 944) (tgt := 23) rfl rfl rfl ?_
                                    refine r_wk (k2 := 3 * nn) (n2 := 285 * nn) (by omega) (by omega) ?_
                                    exact r_lv (fw_sub1 rfl (fw_sub1 rfl (fw_sub1 rfl (fw_sub1 rfl (fw_sub1 rfl fw_sub0))))) (ih (a23_4 + (6 : Int32)) x707.2)
                                  · refine r_iconst (i := 357) (0 : Int32) kc_iconst_0 rfl rfl ?_
                                    exact r_retB (x := false) (i := 358) rfl rfl rfl rfl
                              · refine r_if_eq (i := 340) (tgt := 688) rfl rfl rfl ?_ ?_
                                · refine r_iconst (i := 343) (0 : Int32) kc_iconst_0 rfl rfl ?_
                                  exact r_lv (fw_sub1 rfl (fw_sub1 rfl (fw_sub1 rfl (fw_sub1 rfl (fw_sub1 rfl fw_sub0))))) (hJ689 (0 : Int32))
                                · refine r_iconst (i := 341) (1 : Int32) kc_iconst_1 rfl rfl ?_
                                  refine r_goto (i := 342) (tgt := 689) rfl rfl rfl ?_
                                  exact r_lv (fw_sub1 rfl (fw_sub1 rfl (fw_sub1 rfl (fw_sub1 rfl (fw_sub1 rfl fw_sub0))))) (hJ689 (1 : Int32))
                            · refine r_split (fun e40_12 => ?_) (fun n40_12 => ?_)
                              · refine r_tinK (i := 24) (tgt := 715) (len := 184) (v := (12 : Int32)) (off := 675) e40_12 rfl rfl (by decide) (by decide) rfl ?_
                                refine r_aload_n (i := 359) rfl rfl rfl ?_
                                refine r_aload_n (i := 360) rfl rfl rfl ?_
                                refine r_iload (i := 361) rfl rfl rfl ?_
                                refine r_iconst (i := 362) (1 : Int32) kc_iconst_1 rfl rfl ?_
                                refine r_iadd (i := 363) rfl rfl ?_
                                refine r_aI (i := 364) rfl rfl fun x721 => ?_
                                refine r_VwI1 (i := 365) (k2 := 3 * nn + 3) (n2 := 285 * nn + 285) ok_Joy_prescribe wM_Law0_78 (c_Joy_prescribe) (fun _ e => fw_ckb e) (Nat.le_of_ble_eq_true rfl) (by omega) (by omega) (Nat.le_of_ble_eq_true rfl) rfl rfl fun x722 => ?_
                                refine r_aload_n (i := 366) rfl rfl rfl ?_
                                refine r_aload_n (i := 367) rfl rfl rfl ?_
                                refine r_iload (i := 368) rfl rfl rfl ?_
                                refine r_iconst (i := 369) (1 : Int32) kc_iconst_1 rfl rfl ?_
                                refine r_iadd (i := 370) rfl rfl ?_
                                refine r_aI (i := 371) rfl rfl fun x731 => ?_
                                refine r_VwI1 (i := 372) (k2 := 3 * nn + 3) (n2 := 285 * nn + 285) ok_Mod_prescribe wM_Law0_81 (c_Mod_prescribe F) (fun _ e => fw_ckb e) (Nat.le_of_ble_eq_true rfl) (by omega) (by omega) (Nat.le_of_ble_eq_true rfl) rfl rfl fun x732 => ?_
                                refine r_icmp_eq (i := 373) (tgt := 1557) rfl rfl rfl ?_ ?_
                                · refine r_iinc (i := 943) (6 : Int32) kc_iconst_6 rfl rfl rfl (Nat.le_of_ble_eq_true rfl) ?_
                                  refine r_goto (i := 944) (tgt := 23) rfl rfl rfl ?_
                                  refine r_wk (k2 := 3 * nn) (n2 := 285 * nn) (by omega) (by omega) ?_
                                  exact r_lv (fw_sub1 rfl (fw_sub1 rfl (fw_sub1 rfl (fw_sub1 rfl (fw_sub1 rfl fw_sub0))))) (ih (a23_4 + (6 : Int32)) x732.2)
                                · refine r_iconst (i := 374) (0 : Int32) kc_iconst_0 rfl rfl ?_
                                  exact r_retB (x := false) (i := 375) rfl rfl rfl rfl
                              · refine r_split (fun e40_13 => ?_) (fun n40_13 => ?_)
                                · refine r_tinK (i := 24) (tgt := 740) (len := 184) (v := (13 : Int32)) (off := 700) e40_13 rfl rfl (by decide) (by decide) rfl ?_
                                  refine r_aload_n (i := 376) rfl rfl rfl ?_
                                  refine r_VwI0 (i := 377) (k2 := 3 * nn + 3) (n2 := 285 * nn + 285) ok_Joy_lie wM_Law0_82 (c_Joy_lie) (fun _ e => fw_ckb e) (Nat.le_of_ble_eq_true rfl) (by omega) (by omega) (Nat.le_of_ble_eq_true rfl) rfl rfl fun x741 => ?_
                                  refine r_aload_n (i := 378) rfl rfl rfl ?_
                                  refine r_VwI0 (i := 379) (k2 := 3 * nn + 3) (n2 := 285 * nn + 285) ok_Mod_lie wM_Law0_85 (c_Mod_lie F) (fun _ e => fw_ckb e) (Nat.le_of_ble_eq_true rfl) (by omega) (by omega) (Nat.le_of_ble_eq_true rfl) rfl rfl fun x745 => ?_
                                  refine r_icmp_eq (i := 380) (tgt := 1557) rfl rfl rfl ?_ ?_
                                  · refine r_iinc (i := 943) (6 : Int32) kc_iconst_6 rfl rfl rfl (Nat.le_of_ble_eq_true rfl) ?_
                                    refine r_goto (i := 944) (tgt := 23) rfl rfl rfl ?_
                                    refine r_wk (k2 := 3 * nn) (n2 := 285 * nn) (by omega) (by omega) ?_
                                    exact r_lv (fw_sub1 rfl (fw_sub1 rfl (fw_sub1 rfl (fw_sub1 rfl (fw_sub1 rfl fw_sub0))))) (ih (a23_4 + (6 : Int32)) x745.2)
                                  · refine r_iconst (i := 381) (0 : Int32) kc_iconst_0 rfl rfl ?_
                                    exact r_retB (x := false) (i := 382) rfl rfl rfl rfl
                                · refine r_split (fun e40_14 => ?_) (fun n40_14 => ?_)
                                  · refine r_tinK (i := 24) (tgt := 753) (len := 184) (v := (14 : Int32)) (off := 713) e40_14 rfl rfl (by decide) (by decide) rfl ?_
                                    refine r_aload_n (i := 383) rfl rfl rfl ?_
                                    refine r_aload_n (i := 384) rfl rfl rfl ?_
                                    refine r_iload (i := 385) rfl rfl rfl ?_
                                    refine r_iconst (i := 386) (1 : Int32) kc_iconst_1 rfl rfl ?_
                                    refine r_iadd (i := 387) rfl rfl ?_
                                    refine r_aI (i := 388) rfl rfl fun x759 => ?_
                                    refine r_VwI1 (i := 389) (k2 := 3 * nn + 3) (n2 := 285 * nn + 285) ok_Joy_go wM_Law0_86 (c_Joy_go F) (fun _ e => fw_ckb e) (Nat.le_of_ble_eq_true rfl) (by omega) (by omega) (Nat.le_of_ble_eq_true rfl) rfl rfl fun x760 => ?_
                                    refine r_aload_n (i := 390) rfl rfl rfl ?_
                                    refine r_aload_n (i := 391) rfl rfl rfl ?_
                                    refine r_iload (i := 392) rfl rfl rfl ?_
                                    refine r_iconst (i := 393) (1 : Int32) kc_iconst_1 rfl rfl ?_
                                    refine r_iadd (i := 394) rfl rfl ?_
                                    refine r_aI (i := 395) rfl rfl fun x769 => ?_
                                    refine r_VwI1 (i := 396) (k2 := 3 * nn + 3) (n2 := 285 * nn + 285) ok_Mod_go wM_Law0_89 (c_Mod_go F) (fun _ e => fw_ckb e) (Nat.le_of_ble_eq_true rfl) (by omega) (by omega) (Nat.le_of_ble_eq_true rfl) rfl rfl fun x770 => ?_
                                    refine r_icmp_eq (i := 397) (tgt := 1557) rfl rfl rfl ?_ ?_
                                    · refine r_iinc (i := 943) (6 : Int32) kc_iconst_6 rfl rfl rfl (Nat.le_of_ble_eq_true rfl) ?_
                                      refine r_goto (i := 944) (tgt := 23) rfl rfl rfl ?_
                                      refine r_wk (k2 := 3 * nn) (n2 := 285 * nn) (by omega) (by omega) ?_
                                      exact r_lv (fw_sub1 rfl (fw_sub1 rfl (fw_sub1 rfl (fw_sub1 rfl (fw_sub1 rfl fw_sub0))))) (ih (a23_4 + (6 : Int32)) x770.2)
                                    · refine r_iconst (i := 398) (0 : Int32) kc_iconst_0 rfl rfl ?_
                                      exact r_retB (x := false) (i := 399) rfl rfl rfl rfl
                                  · refine r_split (fun e40_15 => ?_) (fun n40_15 => ?_)
                                    · refine r_tinK (i := 24) (tgt := 778) (len := 184) (v := (15 : Int32)) (off := 738) e40_15 rfl rfl (by decide) (by decide) rfl ?_
                                      refine r_aload_n (i := 400) rfl rfl rfl ?_
                                      refine r_aload_n (i := 401) rfl rfl rfl ?_
                                      refine r_iload (i := 402) rfl rfl rfl ?_
                                      refine r_iconst (i := 403) (1 : Int32) kc_iconst_1 rfl rfl ?_
                                      refine r_iadd (i := 404) rfl rfl ?_
                                      refine r_aI (i := 405) rfl rfl fun x784 => ?_
                                      refine r_VwB1 (i := 406) (k2 := 3 * nn + 3) (n2 := 285 * nn + 285) ok_Joy_mist wM_Law0_90 (c_Joy_mist) (fun _ e => fw_ckb e) (Nat.le_of_ble_eq_true rfl) (by omega) (by omega) (Nat.le_of_ble_eq_true rfl) rfl rfl fun x785 => ?_
                                      refine r_aload_n (i := 407) rfl rfl rfl ?_
                                      refine r_aload_n (i := 408) rfl rfl rfl ?_
                                      refine r_iload (i := 409) rfl rfl rfl ?_
                                      refine r_iconst (i := 410) (1 : Int32) kc_iconst_1 rfl rfl ?_
                                      refine r_iadd (i := 411) rfl rfl ?_
                                      refine r_aI (i := 412) rfl rfl fun x794 => ?_
                                      refine r_VwB1 (i := 413) (k2 := 3 * nn + 3) (n2 := 285 * nn + 285) ok_Mod_mist wM_Law0_93 (c_Mod_mist) (fun _ e => fw_ckb e) (Nat.le_of_ble_eq_true rfl) (by omega) (by omega) (Nat.le_of_ble_eq_true rfl) rfl rfl fun x795 => ?_
                                      refine r_icmp_eq (i := 414) (tgt := 1557) rfl rfl rfl ?_ ?_
                                      · refine r_iinc (i := 943) (6 : Int32) kc_iconst_6 rfl rfl rfl (Nat.le_of_ble_eq_true rfl) ?_
                                        refine r_goto (i := 944) (tgt := 23) rfl rfl rfl ?_
                                        refine r_wk (k2 := 3 * nn) (n2 := 285 * nn) (by omega) (by omega) ?_
                                        exact r_lv (fw_sub1 rfl (fw_sub1 rfl (fw_sub1 rfl (fw_sub1 rfl (fw_sub1 rfl fw_sub0))))) (ih (a23_4 + (6 : Int32)) x795.2)
                                      · refine r_iconst (i := 415) (0 : Int32) kc_iconst_0 rfl rfl ?_
                                        exact r_retB (x := false) (i := 416) rfl rfl rfl rfl
                                    · refine r_split (fun e40_16 => ?_) (fun n40_16 => ?_)
                                      · refine r_tinK (i := 24) (tgt := 803) (len := 184) (v := (16 : Int32)) (off := 763) e40_16 rfl rfl (by decide) (by decide) rfl ?_
                                        refine r_aload_n (i := 417) rfl rfl rfl ?_
                                        refine r_aload_n (i := 418) rfl rfl rfl ?_
                                        refine r_iload (i := 419) rfl rfl rfl ?_
                                        refine r_iconst (i := 420) (1 : Int32) kc_iconst_1 rfl rfl ?_
                                        refine r_iadd (i := 421) rfl rfl ?_
                                        refine r_aI (i := 422) rfl rfl fun x809 => ?_
                                        refine r_aload_n (i := 423) rfl rfl rfl ?_
                                        refine r_iload (i := 424) rfl rfl rfl ?_
                                        refine r_iconst (i := 425) (2 : Int32) kc_iconst_2 rfl rfl ?_
                                        refine r_iadd (i := 426) rfl rfl ?_
                                        refine r_aI (i := 427) rfl rfl fun x815 => ?_
                                        refine r_i2l (i := 428) rfl rfl ?_
                                        refine r_bipush (i := 429) (32 : Int32) kc_bipush_32 rfl rfl ?_
                                        refine r_lshl (i := 430) rfl rfl ?_
                                        refine r_aload_n (i := 431) rfl rfl rfl ?_
                                        refine r_iload (i := 432) rfl rfl rfl ?_
                                        refine r_iconst (i := 433) (3 : Int32) kc_iconst_3 rfl rfl ?_
                                        refine r_iadd (i := 434) rfl rfl ?_
                                        refine r_aI (i := 435) rfl rfl fun x825 => ?_
                                        refine r_i2l (i := 436) rfl rfl ?_
                                        refine r_ldc2 (i := 437) wL_Law0_94 rfl rfl ?_
                                        refine r_land (i := 438) rfl rfl ?_
                                        refine r_lor (i := 439) rfl rfl ?_
                                        refine r_VwI2 (i := 440) (k2 := 3 * nn + 3) (n2 := 285 * nn + 285) ok_Joy_mists wM_Law0_96 (c_Joy_mists F) (fun _ e => fw_ckb e) (Nat.le_of_ble_eq_true rfl) (by omega) (by omega) (Nat.le_of_ble_eq_true rfl) rfl rfl fun x832 => ?_
                                        refine r_aload_n (i := 441) rfl rfl rfl ?_
                                        refine r_aload_n (i := 442) rfl rfl rfl ?_
                                        refine r_iload (i := 443) rfl rfl rfl ?_
                                        refine r_iconst (i := 444) (1 : Int32) kc_iconst_1 rfl rfl ?_
                                        refine r_iadd (i := 445) rfl rfl ?_
                                        refine r_aI (i := 446) rfl rfl fun x841 => ?_
                                        refine r_aload_n (i := 447) rfl rfl rfl ?_
                                        refine r_iload (i := 448) rfl rfl rfl ?_
                                        refine r_iconst (i := 449) (2 : Int32) kc_iconst_2 rfl rfl ?_
                                        refine r_iadd (i := 450) rfl rfl ?_
                                        refine r_aI (i := 451) rfl rfl fun x847 => ?_
                                        refine r_i2l (i := 452) rfl rfl ?_
                                        refine r_bipush (i := 453) (32 : Int32) kc_bipush_32 rfl rfl ?_
                                        refine r_lshl (i := 454) rfl rfl ?_
                                        refine r_aload_n (i := 455) rfl rfl rfl ?_
                                        refine r_iload (i := 456) rfl rfl rfl ?_
                                        refine r_iconst (i := 457) (3 : Int32) kc_iconst_3 rfl rfl ?_
                                        refine r_iadd (i := 458) rfl rfl ?_
                                        refine r_aI (i := 459) rfl rfl fun x857 => ?_
                                        refine r_i2l (i := 460) rfl rfl ?_
                                        refine r_ldc2 (i := 461) wL_Law0_94 rfl rfl ?_
                                        refine r_land (i := 462) rfl rfl ?_
                                        refine r_lor (i := 463) rfl rfl ?_
                                        refine r_VwI2 (i := 464) (k2 := 3 * nn + 3) (n2 := 285 * nn + 285) ok_Mod_mists wM_Law0_100 (c_Mod_mists F) (fun _ e => fw_ckb e) (Nat.le_of_ble_eq_true rfl) (by omega) (by omega) (Nat.le_of_ble_eq_true rfl) rfl rfl fun x864 => ?_
                                        refine r_icmp_eq (i := 465) (tgt := 1557) rfl rfl rfl ?_ ?_
                                        · refine r_iinc (i := 943) (6 : Int32) kc_iconst_6 rfl rfl rfl (Nat.le_of_ble_eq_true rfl) ?_
                                          refine r_goto (i := 944) (tgt := 23) rfl rfl rfl ?_
                                          refine r_wk (k2 := 3 * nn) (n2 := 285 * nn) (by omega) (by omega) ?_
                                          exact r_lv (fw_sub1 rfl (fw_sub1 rfl (fw_sub1 rfl (fw_sub1 rfl (fw_sub1 rfl fw_sub0))))) (ih (a23_4 + (6 : Int32)) x864.2)
                                        · refine r_iconst (i := 466) (0 : Int32) kc_iconst_0 rfl rfl ?_
                                          exact r_retB (x := false) (i := 467) rfl rfl rfl rfl
                                      · refine r_split (fun e40_17 => ?_) (fun n40_17 => ?_)
                                        · refine r_tinK (i := 24) (tgt := 872) (len := 184) (v := (17 : Int32)) (off := 832) e40_17 rfl rfl (by decide) (by decide) rfl ?_
                                          refine r_aload_n (i := 468) rfl rfl rfl ?_
                                          refine r_VwI0 (i := 469) (k2 := 3 * nn + 3) (n2 := 285 * nn + 285) ok_Joy_undo wM_Law0_101 (c_Joy_undo F) (fun _ e => fw_ckb e) (Nat.le_of_ble_eq_true rfl) (by omega) (by omega) (Nat.le_of_ble_eq_true rfl) rfl rfl fun x873 => ?_
                                          refine r_aload_n (i := 470) rfl rfl rfl ?_
                                          refine r_VwI0 (i := 471) (k2 := 3 * nn + 3) (n2 := 285 * nn + 285) ok_Mod_undo wM_Law0_104 (c_Mod_undo F) (fun _ e => fw_ckb e) (Nat.le_of_ble_eq_true rfl) (by omega) (by omega) (Nat.le_of_ble_eq_true rfl) rfl rfl fun x877 => ?_
                                          refine r_icmp_eq (i := 472) (tgt := 1557) rfl rfl rfl ?_ ?_
                                          · refine r_iinc (i := 943) (6 : Int32) kc_iconst_6 rfl rfl rfl (Nat.le_of_ble_eq_true rfl) ?_
                                            refine r_goto (i := 944) (tgt := 23) rfl rfl rfl ?_
                                            refine r_wk (k2 := 3 * nn) (n2 := 285 * nn) (by omega) (by omega) ?_
                                            exact r_lv (fw_sub1 rfl (fw_sub1 rfl (fw_sub1 rfl (fw_sub1 rfl (fw_sub1 rfl fw_sub0))))) (ih (a23_4 + (6 : Int32)) x877.2)
                                          · refine r_iconst (i := 473) (0 : Int32) kc_iconst_0 rfl rfl ?_
                                            exact r_retB (x := false) (i := 474) rfl rfl rfl rfl
                                        · refine r_split (fun e40_18 => ?_) (fun n40_18 => ?_)
                                          · refine r_tinK (i := 24) (tgt := 885) (len := 184) (v := (18 : Int32)) (off := 845) e40_18 rfl rfl (by decide) (by decide) rfl ?_
                                            refine r_aload_n (i := 475) rfl rfl rfl ?_
                                            refine r_aload_n (i := 476) rfl rfl rfl ?_
                                            refine r_iload (i := 477) rfl rfl rfl ?_
                                            refine r_iconst (i := 478) (1 : Int32) kc_iconst_1 rfl rfl ?_
                                            refine r_iadd (i := 479) rfl rfl ?_
                                            refine r_aI (i := 480) rfl rfl fun x891 => ?_
                                            refine r_VI1 (i := 481) (k2 := 3 * nn + 3) (n2 := 285 * nn + 285) ok_Joy_log wM_Law0_105 (c_Joy_log) (fun _ e => fw_ckb e) (Nat.le_of_ble_eq_true rfl) (by omega) (by omega) (Nat.le_of_ble_eq_true rfl) rfl rfl fun x892 => ?_
                                            refine r_aload_n (i := 482) rfl rfl rfl ?_
                                            refine r_aload_n (i := 483) rfl rfl rfl ?_
                                            refine r_iload (i := 484) rfl rfl rfl ?_
                                            refine r_iconst (i := 485) (1 : Int32) kc_iconst_1 rfl rfl ?_
                                            refine r_iadd (i := 486) rfl rfl ?_
                                            refine r_aI (i := 487) rfl rfl fun x901 => ?_
                                            refine r_VI1 (i := 488) (k2 := 3 * nn + 3) (n2 := 285 * nn + 285) ok_Mod_log wM_Law0_108 (c_Mod_log) (fun _ e => fw_ckb e) (Nat.le_of_ble_eq_true rfl) (by omega) (by omega) (Nat.le_of_ble_eq_true rfl) rfl rfl fun x902 => ?_
                                            refine r_icmp_eq (i := 489) (tgt := 1557) rfl rfl rfl ?_ ?_
                                            · refine r_iinc (i := 943) (6 : Int32) kc_iconst_6 rfl rfl rfl (Nat.le_of_ble_eq_true rfl) ?_
                                              refine r_goto (i := 944) (tgt := 23) rfl rfl rfl ?_
                                              refine r_wk (k2 := 3 * nn) (n2 := 285 * nn) (by omega) (by omega) ?_
                                              exact r_lv (fw_sub1 rfl (fw_sub1 rfl (fw_sub1 rfl (fw_sub1 rfl (fw_sub1 rfl fw_sub0))))) (ih (a23_4 + (6 : Int32)) g23)
                                            · refine r_iconst (i := 490) (0 : Int32) kc_iconst_0 rfl rfl ?_
                                              exact r_retB (x := false) (i := 491) rfl rfl rfl rfl
                                          · refine r_split (fun e40_19 => ?_) (fun n40_19 => ?_)
                                            · refine r_tinK (i := 24) (tgt := 910) (len := 184) (v := (19 : Int32)) (off := 870) e40_19 rfl rfl (by decide) (by decide) rfl ?_
                                              refine r_aload_n (i := 492) rfl rfl rfl ?_
                                              refine r_aload_n (i := 493) rfl rfl rfl ?_
                                              refine r_iload (i := 494) rfl rfl rfl ?_
                                              refine r_iconst (i := 495) (1 : Int32) kc_iconst_1 rfl rfl ?_
                                              refine r_iadd (i := 496) rfl rfl ?_
                                              refine r_aI (i := 497) rfl rfl fun x916 => ?_
                                              refine r_VwI1 (i := 498) (k2 := 3 * nn + 3) (n2 := 285 * nn + 285) ok_Joy_ahead wM_Law0_109 (c_Joy_ahead F) (fun _ e => fw_ckb e) (Nat.le_of_ble_eq_true rfl) (by omega) (by omega) (Nat.le_of_ble_eq_true rfl) rfl rfl fun x917 => ?_
                                              refine r_aload_n (i := 499) rfl rfl rfl ?_
                                              refine r_aload_n (i := 500) rfl rfl rfl ?_
                                              refine r_iload (i := 501) rfl rfl rfl ?_
                                              refine r_iconst (i := 502) (1 : Int32) kc_iconst_1 rfl rfl ?_
                                              refine r_iadd (i := 503) rfl rfl ?_
                                              refine r_aI (i := 504) rfl rfl fun x926 => ?_
                                              refine r_VwI1 (i := 505) (k2 := 3 * nn + 3) (n2 := 285 * nn + 285) ok_Mod_ahead wM_Law0_112 (c_Mod_ahead F) (fun _ e => fw_ckb e) (Nat.le_of_ble_eq_true rfl) (by omega) (by omega) (Nat.le_of_ble_eq_true rfl) rfl rfl fun x927 => ?_
                                              refine r_icmp_eq (i := 506) (tgt := 1557) rfl rfl rfl ?_ ?_
                                              · refine r_iinc (i := 943) (6 : Int32) kc_iconst_6 rfl rfl rfl (Nat.le_of_ble_eq_true rfl) ?_
                                                refine r_goto (i := 944) (tgt := 23) rfl rfl rfl ?_
                                                refine r_wk (k2 := 3 * nn) (n2 := 285 * nn) (by omega) (by omega) ?_
                                                exact r_lv (fw_sub1 rfl (fw_sub1 rfl (fw_sub1 rfl (fw_sub1 rfl (fw_sub1 rfl fw_sub0))))) (ih (a23_4 + (6 : Int32)) x927.2)
                                              · refine r_iconst (i := 507) (0 : Int32) kc_iconst_0 rfl rfl ?_
                                                exact r_retB (x := false) (i := 508) rfl rfl rfl rfl
                                            · refine r_split (fun e40_20 => ?_) (fun n40_20 => ?_)
                                              · refine r_tinK (i := 24) (tgt := 935) (len := 184) (v := (20 : Int32)) (off := 895) e40_20 rfl rfl (by decide) (by decide) rfl ?_
                                                refine r_aload_n (i := 509) rfl rfl rfl ?_
                                                refine r_aload_n (i := 510) rfl rfl rfl ?_
                                                refine r_iload (i := 511) rfl rfl rfl ?_
                                                refine r_iconst (i := 512) (1 : Int32) kc_iconst_1 rfl rfl ?_
                                                refine r_iadd (i := 513) rfl rfl ?_
                                                refine r_aI (i := 514) rfl rfl fun x941 => ?_
                                                refine r_VwI1 (i := 515) (k2 := 3 * nn + 3) (n2 := 285 * nn + 285) ok_Joy_when wM_Law0_113 (c_Joy_when F) (fun _ e => fw_ckb e) (Nat.le_of_ble_eq_true rfl) (by omega) (by omega) (Nat.le_of_ble_eq_true rfl) rfl rfl fun x942 => ?_
                                                refine r_aload_n (i := 516) rfl rfl rfl ?_
                                                refine r_aload_n (i := 517) rfl rfl rfl ?_
                                                refine r_iload (i := 518) rfl rfl rfl ?_
                                                refine r_iconst (i := 519) (1 : Int32) kc_iconst_1 rfl rfl ?_
                                                refine r_iadd (i := 520) rfl rfl ?_
                                                refine r_aI (i := 521) rfl rfl fun x951 => ?_
                                                refine r_VwI1 (i := 522) (k2 := 3 * nn + 3) (n2 := 285 * nn + 285) ok_Mod_when wM_Law0_116 (c_Mod_when F) (fun _ e => fw_ckb e) (Nat.le_of_ble_eq_true rfl) (by omega) (by omega) (Nat.le_of_ble_eq_true rfl) rfl rfl fun x952 => ?_
                                                refine r_icmp_eq (i := 523) (tgt := 1557) rfl rfl rfl ?_ ?_
                                                · refine r_iinc (i := 943) (6 : Int32) kc_iconst_6 rfl rfl rfl (Nat.le_of_ble_eq_true rfl) ?_
                                                  refine r_goto (i := 944) (tgt := 23) rfl rfl rfl ?_
                                                  refine r_wk (k2 := 3 * nn) (n2 := 285 * nn) (by omega) (by omega) ?_
                                                  exact r_lv (fw_sub1 rfl (fw_sub1 rfl (fw_sub1 rfl (fw_sub1 rfl (fw_sub1 rfl fw_sub0))))) (ih (a23_4 + (6 : Int32)) x952.2)
                                                · refine r_iconst (i := 524) (0 : Int32) kc_iconst_0 rfl rfl ?_
                                                  exact r_retB (x := false) (i := 525) rfl rfl rfl rfl
                                              · refine r_split (fun e40_21 => ?_) (fun n40_21 => ?_)
                                                · refine r_tinK (i := 24) (tgt := 960) (len := 184) (v := (21 : Int32)) (off := 920) e40_21 rfl rfl (by decide) (by decide) rfl ?_
                                                  refine r_aload_n (i := 526) rfl rfl rfl ?_
                                                  refine r_aload_n (i := 527) rfl rfl rfl ?_
                                                  refine r_iload (i := 528) rfl rfl rfl ?_
                                                  refine r_iconst (i := 529) (1 : Int32) kc_iconst_1 rfl rfl ?_
                                                  refine r_iadd (i := 530) rfl rfl ?_
                                                  refine r_aI (i := 531) rfl rfl fun x966 => ?_
                                                  refine r_VwI1 (i := 532) (k2 := 3 * nn + 3) (n2 := 285 * nn + 285) ok_Joy_round wM_Law0_117 (c_Joy_round F) (fun _ e => fw_ckb e) (Nat.le_of_ble_eq_true rfl) (by omega) (by omega) (Nat.le_of_ble_eq_true rfl) rfl rfl fun x967 => ?_
                                                  refine r_aload_n (i := 533) rfl rfl rfl ?_
                                                  refine r_aload_n (i := 534) rfl rfl rfl ?_
                                                  refine r_iload (i := 535) rfl rfl rfl ?_
                                                  refine r_iconst (i := 536) (1 : Int32) kc_iconst_1 rfl rfl ?_
                                                  refine r_iadd (i := 537) rfl rfl ?_
                                                  refine r_aI (i := 538) rfl rfl fun x976 => ?_
                                                  refine r_VwI1 (i := 539) (k2 := 3 * nn + 3) (n2 := 285 * nn + 285) ok_Mod_round wM_Law0_120 (c_Mod_round F) (fun _ e => fw_ckb e) (Nat.le_of_ble_eq_true rfl) (by omega) (by omega) (Nat.le_of_ble_eq_true rfl) rfl rfl fun x977 => ?_
                                                  refine r_icmp_eq (i := 540) (tgt := 1557) rfl rfl rfl ?_ ?_
                                                  · refine r_iinc (i := 943) (6 : Int32) kc_iconst_6 rfl rfl rfl (Nat.le_of_ble_eq_true rfl) ?_
                                                    refine r_goto (i := 944) (tgt := 23) rfl rfl rfl ?_
                                                    refine r_wk (k2 := 3 * nn) (n2 := 285 * nn) (by omega) (by omega) ?_
                                                    exact r_lv (fw_sub1 rfl (fw_sub1 rfl (fw_sub1 rfl (fw_sub1 rfl (fw_sub1 rfl fw_sub0))))) (ih (a23_4 + (6 : Int32)) x977.2)
                                                  · refine r_iconst (i := 541) (0 : Int32) kc_iconst_0 rfl rfl ?_
                                                    exact r_retB (x := false) (i := 542) rfl rfl rfl rfl
                                                · refine r_split (fun e40_22 => ?_) (fun n40_22 => ?_)
                                                  · refine r_tinK (i := 24) (tgt := 985) (len := 184) (v := (22 : Int32)) (off := 945) e40_22 rfl rfl (by decide) (by decide) rfl ?_
                                                    refine r_aload_n (i := 543) rfl rfl rfl ?_
                                                    refine r_VwI0 (i := 544) (k2 := 3 * nn + 3) (n2 := 285 * nn + 285) ok_Joy_never wM_Law0_121 (c_Joy_never F) (fun _ e => fw_ckb e) (Nat.le_of_ble_eq_true rfl) (by omega) (by omega) (Nat.le_of_ble_eq_true rfl) rfl rfl fun x986 => ?_
                                                    refine r_aload_n (i := 545) rfl rfl rfl ?_
                                                    refine r_VwI0 (i := 546) (k2 := 3 * nn + 3) (n2 := 285 * nn + 285) ok_Mod_never wM_Law0_124 (c_Mod_never F) (fun _ e => fw_ckb e) (Nat.le_of_ble_eq_true rfl) (by omega) (by omega) (Nat.le_of_ble_eq_true rfl) rfl rfl fun x990 => ?_
                                                    refine r_icmp_eq (i := 547) (tgt := 1557) rfl rfl rfl ?_ ?_
                                                    · refine r_iinc (i := 943) (6 : Int32) kc_iconst_6 rfl rfl rfl (Nat.le_of_ble_eq_true rfl) ?_
                                                      refine r_goto (i := 944) (tgt := 23) rfl rfl rfl ?_
                                                      refine r_wk (k2 := 3 * nn) (n2 := 285 * nn) (by omega) (by omega) ?_
                                                      exact r_lv (fw_sub1 rfl (fw_sub1 rfl (fw_sub1 rfl (fw_sub1 rfl (fw_sub1 rfl fw_sub0))))) (ih (a23_4 + (6 : Int32)) x990.2)
                                                    · refine r_iconst (i := 548) (0 : Int32) kc_iconst_0 rfl rfl ?_
                                                      exact r_retB (x := false) (i := 549) rfl rfl rfl rfl
                                                  · refine r_split (fun e40_23 => ?_) (fun n40_23 => ?_)
                                                    · refine r_tinK (i := 24) (tgt := 998) (len := 184) (v := (23 : Int32)) (off := 958) e40_23 rfl rfl (by decide) (by decide) rfl ?_
                                                      refine r_aload_n (i := 550) rfl rfl rfl ?_
                                                      refine r_VwI0 (i := 551) (k2 := 3 * nn + 3) (n2 := 285 * nn + 285) ok_Joy_feud wM_Law0_125 (c_Joy_feud F) (fun _ e => fw_ckb e) (Nat.le_of_ble_eq_true rfl) (by omega) (by omega) (Nat.le_of_ble_eq_true rfl) rfl rfl fun x999 => ?_
                                                      refine r_aload_n (i := 552) rfl rfl rfl ?_
                                                      refine r_VwI0 (i := 553) (k2 := 3 * nn + 3) (n2 := 285 * nn + 285) ok_Mod_feud wM_Law0_128 (c_Mod_feud F) (fun _ e => fw_ckb e) (Nat.le_of_ble_eq_true rfl) (by omega) (by omega) (Nat.le_of_ble_eq_true rfl) rfl rfl fun x1003 => ?_
                                                      refine r_icmp_eq (i := 554) (tgt := 1557) rfl rfl rfl ?_ ?_
                                                      · refine r_iinc (i := 943) (6 : Int32) kc_iconst_6 rfl rfl rfl (Nat.le_of_ble_eq_true rfl) ?_
                                                        refine r_goto (i := 944) (tgt := 23) rfl rfl rfl ?_
                                                        refine r_wk (k2 := 3 * nn) (n2 := 285 * nn) (by omega) (by omega) ?_
                                                        exact r_lv (fw_sub1 rfl (fw_sub1 rfl (fw_sub1 rfl (fw_sub1 rfl (fw_sub1 rfl fw_sub0))))) (ih (a23_4 + (6 : Int32)) x1003.2)
                                                      · refine r_iconst (i := 555) (0 : Int32) kc_iconst_0 rfl rfl ?_
                                                        exact r_retB (x := false) (i := 556) rfl rfl rfl rfl
                                                    · refine r_split (fun e40_24 => ?_) (fun n40_24 => ?_)
                                                      · refine r_tinK (i := 24) (tgt := 1011) (len := 184) (v := (24 : Int32)) (off := 971) e40_24 rfl rfl (by decide) (by decide) rfl ?_
                                                        refine r_aload_n (i := 557) rfl rfl rfl ?_
                                                        refine r_aload_n (i := 558) rfl rfl rfl ?_
                                                        refine r_iload (i := 559) rfl rfl rfl ?_
                                                        refine r_iconst (i := 560) (1 : Int32) kc_iconst_1 rfl rfl ?_
                                                        refine r_iadd (i := 561) rfl rfl ?_
                                                        refine r_aI (i := 562) rfl rfl fun x1017 => ?_
                                                        refine r_aload_n (i := 563) rfl rfl rfl ?_
                                                        refine r_iload (i := 564) rfl rfl rfl ?_
                                                        refine r_iconst (i := 565) (2 : Int32) kc_iconst_2 rfl rfl ?_
                                                        refine r_iadd (i := 566) rfl rfl ?_
                                                        refine r_aI (i := 567) rfl rfl fun x1023 => ?_
                                                        refine r_VwI2 (i := 568) (k2 := 3 * nn + 3) (n2 := 285 * nn + 285) ok_Joy_stand wM_Law0_129 (c_Joy_stand F) (fun _ e => fw_ckb e) (Nat.le_of_ble_eq_true rfl) (by omega) (by omega) (Nat.le_of_ble_eq_true rfl) rfl rfl fun x1024 => ?_
                                                        refine r_aload_n (i := 569) rfl rfl rfl ?_
                                                        refine r_aload_n (i := 570) rfl rfl rfl ?_
                                                        refine r_iload (i := 571) rfl rfl rfl ?_
                                                        refine r_iconst (i := 572) (1 : Int32) kc_iconst_1 rfl rfl ?_
                                                        refine r_iadd (i := 573) rfl rfl ?_
                                                        refine r_aI (i := 574) rfl rfl fun x1033 => ?_
                                                        refine r_aload_n (i := 575) rfl rfl rfl ?_
                                                        refine r_iload (i := 576) rfl rfl rfl ?_
                                                        refine r_iconst (i := 577) (2 : Int32) kc_iconst_2 rfl rfl ?_
                                                        refine r_iadd (i := 578) rfl rfl ?_
                                                        refine r_aI (i := 579) rfl rfl fun x1039 => ?_
                                                        refine r_VwI2 (i := 580) (k2 := 3 * nn + 3) (n2 := 285 * nn + 285) ok_Mod_stand wM_Law0_132 (c_Mod_stand F) (fun _ e => fw_ckb e) (Nat.le_of_ble_eq_true rfl) (by omega) (by omega) (Nat.le_of_ble_eq_true rfl) rfl rfl fun x1040 => ?_
                                                        refine r_icmp_eq (i := 581) (tgt := 1557) rfl rfl rfl ?_ ?_
                                                        · refine r_iinc (i := 943) (6 : Int32) kc_iconst_6 rfl rfl rfl (Nat.le_of_ble_eq_true rfl) ?_
                                                          refine r_goto (i := 944) (tgt := 23) rfl rfl rfl ?_
                                                          refine r_wk (k2 := 3 * nn) (n2 := 285 * nn) (by omega) (by omega) ?_
                                                          exact r_lv (fw_sub1 rfl (fw_sub1 rfl (fw_sub1 rfl (fw_sub1 rfl (fw_sub1 rfl fw_sub0))))) (ih (a23_4 + (6 : Int32)) x1040.2)
                                                        · refine r_iconst (i := 582) (0 : Int32) kc_iconst_0 rfl rfl ?_
                                                          exact r_retB (x := false) (i := 583) rfl rfl rfl rfl
                                                      · refine r_split (fun e40_25 => ?_) (fun n40_25 => ?_)
                                                        · refine r_tinK (i := 24) (tgt := 1048) (len := 184) (v := (25 : Int32)) (off := 1008) e40_25 rfl rfl (by decide) (by decide) rfl ?_
                                                          refine r_aload_n (i := 584) rfl rfl rfl ?_
                                                          refine r_aload_n (i := 585) rfl rfl rfl ?_
                                                          refine r_iload (i := 586) rfl rfl rfl ?_
                                                          refine r_iconst (i := 587) (1 : Int32) kc_iconst_1 rfl rfl ?_
                                                          refine r_iadd (i := 588) rfl rfl ?_
                                                          refine r_aI (i := 589) rfl rfl fun x1054 => ?_
                                                          refine r_aload_n (i := 590) rfl rfl rfl ?_
                                                          refine r_iload (i := 591) rfl rfl rfl ?_
                                                          refine r_iconst (i := 592) (2 : Int32) kc_iconst_2 rfl rfl ?_
                                                          refine r_iadd (i := 593) rfl rfl ?_
                                                          refine r_aI (i := 594) rfl rfl fun x1060 => ?_
                                                          refine r_VwI2 (i := 595) (k2 := 3 * nn + 3) (n2 := 285 * nn + 285) ok_Joy_lies wM_Law0_133 (c_Joy_lies F) (fun _ e => fw_ckb e) (Nat.le_of_ble_eq_true rfl) (by omega) (by omega) (Nat.le_of_ble_eq_true rfl) rfl rfl fun x1061 => ?_
                                                          refine r_aload_n (i := 596) rfl rfl rfl ?_
                                                          refine r_aload_n (i := 597) rfl rfl rfl ?_
                                                          refine r_iload (i := 598) rfl rfl rfl ?_
                                                          refine r_iconst (i := 599) (1 : Int32) kc_iconst_1 rfl rfl ?_
                                                          refine r_iadd (i := 600) rfl rfl ?_
                                                          refine r_aI (i := 601) rfl rfl fun x1070 => ?_
                                                          refine r_aload_n (i := 602) rfl rfl rfl ?_
                                                          refine r_iload (i := 603) rfl rfl rfl ?_
                                                          refine r_iconst (i := 604) (2 : Int32) kc_iconst_2 rfl rfl ?_
                                                          refine r_iadd (i := 605) rfl rfl ?_
                                                          refine r_aI (i := 606) rfl rfl fun x1076 => ?_
                                                          refine r_VwI2 (i := 607) (k2 := 3 * nn + 3) (n2 := 285 * nn + 285) ok_Mod_lies wM_Law0_136 (c_Mod_lies F) (fun _ e => fw_ckb e) (Nat.le_of_ble_eq_true rfl) (by omega) (by omega) (Nat.le_of_ble_eq_true rfl) rfl rfl fun x1077 => ?_
                                                          refine r_icmp_eq (i := 608) (tgt := 1557) rfl rfl rfl ?_ ?_
                                                          · refine r_iinc (i := 943) (6 : Int32) kc_iconst_6 rfl rfl rfl (Nat.le_of_ble_eq_true rfl) ?_
                                                            refine r_goto (i := 944) (tgt := 23) rfl rfl rfl ?_
                                                            refine r_wk (k2 := 3 * nn) (n2 := 285 * nn) (by omega) (by omega) ?_
                                                            exact r_lv (fw_sub1 rfl (fw_sub1 rfl (fw_sub1 rfl (fw_sub1 rfl (fw_sub1 rfl fw_sub0))))) (ih (a23_4 + (6 : Int32)) x1077.2)
                                                          · refine r_iconst (i := 609) (0 : Int32) kc_iconst_0 rfl rfl ?_
                                                            exact r_retB (x := false) (i := 610) rfl rfl rfl rfl
                                                        · refine r_split (fun e40_26 => ?_) (fun n40_26 => ?_)
                                                          · refine r_tinK (i := 24) (tgt := 1085) (len := 184) (v := (26 : Int32)) (off := 1045) e40_26 rfl rfl (by decide) (by decide) rfl ?_
                                                            refine r_aload_n (i := 611) rfl rfl rfl ?_
                                                            refine r_aload_n (i := 612) rfl rfl rfl ?_
                                                            refine r_iload (i := 613) rfl rfl rfl ?_
                                                            refine r_iconst (i := 614) (1 : Int32) kc_iconst_1 rfl rfl ?_
                                                            refine r_iadd (i := 615) rfl rfl ?_
                                                            refine r_aI (i := 616) rfl rfl fun x1091 => ?_
                                                            refine r_VwI1 (i := 617) (k2 := 3 * nn + 3) (n2 := 285 * nn + 285) ok_Joy_shutters wM_Law0_137 (c_Joy_shutters F) (fun _ e => fw_ckb e) (Nat.le_of_ble_eq_true rfl) (by omega) (by omega) (Nat.le_of_ble_eq_true rfl) rfl rfl fun x1092 => ?_
                                                            refine r_aload_n (i := 618) rfl rfl rfl ?_
                                                            refine r_aload_n (i := 619) rfl rfl rfl ?_
                                                            refine r_iload (i := 620) rfl rfl rfl ?_
                                                            refine r_iconst (i := 621) (1 : Int32) kc_iconst_1 rfl rfl ?_
                                                            refine r_iadd (i := 622) rfl rfl ?_
                                                            refine r_aI (i := 623) rfl rfl fun x1101 => ?_
                                                            refine r_VwI1 (i := 624) (k2 := 3 * nn + 3) (n2 := 285 * nn + 285) ok_Mod_shutters wM_Law0_140 (c_Mod_shutters F) (fun _ e => fw_ckb e) (Nat.le_of_ble_eq_true rfl) (by omega) (by omega) (Nat.le_of_ble_eq_true rfl) rfl rfl fun x1102 => ?_
                                                            refine r_icmp_eq (i := 625) (tgt := 1557) rfl rfl rfl ?_ ?_
                                                            · refine r_iinc (i := 943) (6 : Int32) kc_iconst_6 rfl rfl rfl (Nat.le_of_ble_eq_true rfl) ?_
                                                              refine r_goto (i := 944) (tgt := 23) rfl rfl rfl ?_
                                                              refine r_wk (k2 := 3 * nn) (n2 := 285 * nn) (by omega) (by omega) ?_
                                                              exact r_lv (fw_sub1 rfl (fw_sub1 rfl (fw_sub1 rfl (fw_sub1 rfl (fw_sub1 rfl fw_sub0))))) (ih (a23_4 + (6 : Int32)) x1102.2)
                                                            · refine r_iconst (i := 626) (0 : Int32) kc_iconst_0 rfl rfl ?_
                                                              exact r_retB (x := false) (i := 627) rfl rfl rfl rfl
                                                          · refine r_split (fun e40_27 => ?_) (fun n40_27 => ?_)
                                                            · refine r_tinK (i := 24) (tgt := 1110) (len := 184) (v := (27 : Int32)) (off := 1070) e40_27 rfl rfl (by decide) (by decide) rfl ?_
                                                              refine r_aload_n (i := 628) rfl rfl rfl ?_
                                                              refine r_aload_n (i := 629) rfl rfl rfl ?_
                                                              refine r_iload (i := 630) rfl rfl rfl ?_
                                                              refine r_iconst (i := 631) (1 : Int32) kc_iconst_1 rfl rfl ?_
                                                              refine r_iadd (i := 632) rfl rfl ?_
                                                              refine r_aI (i := 633) rfl rfl fun x1116 => ?_
                                                              refine r_aload_n (i := 634) rfl rfl rfl ?_
                                                              refine r_iload (i := 635) rfl rfl rfl ?_
                                                              refine r_iconst (i := 636) (2 : Int32) kc_iconst_2 rfl rfl ?_
                                                              refine r_iadd (i := 637) rfl rfl ?_
                                                              refine r_aI (i := 638) rfl rfl fun x1122 => ?_
                                                              refine r_aload_n (i := 639) rfl rfl rfl ?_
                                                              refine r_iload (i := 640) rfl rfl rfl ?_
                                                              refine r_iconst (i := 641) (3 : Int32) kc_iconst_3 rfl rfl ?_
                                                              refine r_iadd (i := 642) rfl rfl ?_
                                                              refine r_aI (i := 643) rfl rfl fun x1128 => ?_
                                                              refine r_VwI3 (i := 644) (k2 := 3 * nn + 3) (n2 := 285 * nn + 285) ok_Joy_feast wM_Law0_141 (c_Joy_feast F) (fun _ e => fw_ckb e) (Nat.le_of_ble_eq_true rfl) (by omega) (by omega) (Nat.le_of_ble_eq_true rfl) rfl rfl fun x1129 => ?_
                                                              refine r_aload_n (i := 645) rfl rfl rfl ?_
                                                              refine r_aload_n (i := 646) rfl rfl rfl ?_
                                                              refine r_iload (i := 647) rfl rfl rfl ?_
                                                              refine r_iconst (i := 648) (1 : Int32) kc_iconst_1 rfl rfl ?_
                                                              refine r_iadd (i := 649) rfl rfl ?_
                                                              refine r_aI (i := 650) rfl rfl fun x1138 => ?_
                                                              refine r_aload_n (i := 651) rfl rfl rfl ?_
                                                              refine r_iload (i := 652) rfl rfl rfl ?_
                                                              refine r_iconst (i := 653) (2 : Int32) kc_iconst_2 rfl rfl ?_
                                                              refine r_iadd (i := 654) rfl rfl ?_
                                                              refine r_aI (i := 655) rfl rfl fun x1144 => ?_
                                                              refine r_aload_n (i := 656) rfl rfl rfl ?_
                                                              refine r_iload (i := 657) rfl rfl rfl ?_
                                                              refine r_iconst (i := 658) (3 : Int32) kc_iconst_3 rfl rfl ?_
                                                              refine r_iadd (i := 659) rfl rfl ?_
                                                              refine r_aI (i := 660) rfl rfl fun x1150 => ?_
                                                              refine r_VwI3 (i := 661) (k2 := 3 * nn + 3) (n2 := 285 * nn + 285) ok_Mod_feast wM_Law0_145 (c_Mod_feast F) (fun _ e => fw_ckb e) (Nat.le_of_ble_eq_true rfl) (by omega) (by omega) (Nat.le_of_ble_eq_true rfl) rfl rfl fun x1151 => ?_
                                                              refine r_icmp_eq (i := 662) (tgt := 1557) rfl rfl rfl ?_ ?_
                                                              · refine r_iinc (i := 943) (6 : Int32) kc_iconst_6 rfl rfl rfl (Nat.le_of_ble_eq_true rfl) ?_
                                                                refine r_goto (i := 944) (tgt := 23) rfl rfl rfl ?_
                                                                refine r_wk (k2 := 3 * nn) (n2 := 285 * nn) (by omega) (by omega) ?_
                                                                exact r_lv (fw_sub1 rfl (fw_sub1 rfl (fw_sub1 rfl (fw_sub1 rfl (fw_sub1 rfl fw_sub0))))) (ih (a23_4 + (6 : Int32)) x1151.2)
                                                              · refine r_iconst (i := 663) (0 : Int32) kc_iconst_0 rfl rfl ?_
                                                                exact r_retB (x := false) (i := 664) rfl rfl rfl rfl
                                                            · refine r_split (fun e40_28 => ?_) (fun n40_28 => ?_)
                                                              · refine r_tinK (i := 24) (tgt := 1159) (len := 184) (v := (28 : Int32)) (off := 1119) e40_28 rfl rfl (by decide) (by decide) rfl ?_
                                                                refine r_aload_n (i := 665) rfl rfl rfl ?_
                                                                refine r_aload_n (i := 666) rfl rfl rfl ?_
                                                                refine r_iload (i := 667) rfl rfl rfl ?_
                                                                refine r_iconst (i := 668) (1 : Int32) kc_iconst_1 rfl rfl ?_
                                                                refine r_iadd (i := 669) rfl rfl ?_
                                                                refine r_aI (i := 670) rfl rfl fun x1165 => ?_
                                                                refine r_aload_n (i := 671) rfl rfl rfl ?_
                                                                refine r_iload (i := 672) rfl rfl rfl ?_
                                                                refine r_iconst (i := 673) (2 : Int32) kc_iconst_2 rfl rfl ?_
                                                                refine r_iadd (i := 674) rfl rfl ?_
                                                                refine r_aI (i := 675) rfl rfl fun x1171 => ?_
                                                                refine r_aload_n (i := 676) rfl rfl rfl ?_
                                                                refine r_iload (i := 677) rfl rfl rfl ?_
                                                                refine r_iconst (i := 678) (3 : Int32) kc_iconst_3 rfl rfl ?_
                                                                refine r_iadd (i := 679) rfl rfl ?_
                                                                refine r_aI (i := 680) rfl rfl fun x1177 => ?_
                                                                refine r_VwI3 (i := 681) (k2 := 3 * nn + 3) (n2 := 285 * nn + 285) ok_Joy_odds wM_Law0_146 (c_Joy_odds F) (fun _ e => fw_ckb e) (Nat.le_of_ble_eq_true rfl) (by omega) (by omega) (Nat.le_of_ble_eq_true rfl) rfl rfl fun x1178 => ?_
                                                                refine r_aload_n (i := 682) rfl rfl rfl ?_
                                                                refine r_aload_n (i := 683) rfl rfl rfl ?_
                                                                refine r_iload (i := 684) rfl rfl rfl ?_
                                                                refine r_iconst (i := 685) (1 : Int32) kc_iconst_1 rfl rfl ?_
                                                                refine r_iadd (i := 686) rfl rfl ?_
                                                                refine r_aI (i := 687) rfl rfl fun x1187 => ?_
                                                                refine r_aload_n (i := 688) rfl rfl rfl ?_
                                                                refine r_iload (i := 689) rfl rfl rfl ?_
                                                                refine r_iconst (i := 690) (2 : Int32) kc_iconst_2 rfl rfl ?_
                                                                refine r_iadd (i := 691) rfl rfl ?_
                                                                refine r_aI (i := 692) rfl rfl fun x1193 => ?_
                                                                refine r_aload_n (i := 693) rfl rfl rfl ?_
                                                                refine r_iload (i := 694) rfl rfl rfl ?_
                                                                refine r_iconst (i := 695) (3 : Int32) kc_iconst_3 rfl rfl ?_
                                                                refine r_iadd (i := 696) rfl rfl ?_
                                                                refine r_aI (i := 697) rfl rfl fun x1199 => ?_
                                                                refine r_VwI3 (i := 698) (k2 := 3 * nn + 3) (n2 := 285 * nn + 285) ok_Mod_odds wM_Law0_149 (c_Mod_odds F) (fun _ e => fw_ckb e) (Nat.le_of_ble_eq_true rfl) (by omega) (by omega) (Nat.le_of_ble_eq_true rfl) rfl rfl fun x1200 => ?_
                                                                refine r_icmp_eq (i := 699) (tgt := 1557) rfl rfl rfl ?_ ?_
                                                                · refine r_iinc (i := 943) (6 : Int32) kc_iconst_6 rfl rfl rfl (Nat.le_of_ble_eq_true rfl) ?_
                                                                  refine r_goto (i := 944) (tgt := 23) rfl rfl rfl ?_
                                                                  refine r_wk (k2 := 3 * nn) (n2 := 285 * nn) (by omega) (by omega) ?_
                                                                  exact r_lv (fw_sub1 rfl (fw_sub1 rfl (fw_sub1 rfl (fw_sub1 rfl (fw_sub1 rfl fw_sub0))))) (ih (a23_4 + (6 : Int32)) x1200.2)
                                                                · refine r_iconst (i := 700) (0 : Int32) kc_iconst_0 rfl rfl ?_
                                                                  exact r_retB (x := false) (i := 701) rfl rfl rfl rfl
                                                              · refine r_split (fun e40_29 => ?_) (fun n40_29 => ?_)
                                                                · refine r_tinK (i := 24) (tgt := 1208) (len := 184) (v := (29 : Int32)) (off := 1168) e40_29 rfl rfl (by decide) (by decide) rfl ?_
                                                                  refine r_aload_n (i := 702) rfl rfl rfl ?_
                                                                  refine r_aload_n (i := 703) rfl rfl rfl ?_
                                                                  refine r_iload (i := 704) rfl rfl rfl ?_
                                                                  refine r_iconst (i := 705) (1 : Int32) kc_iconst_1 rfl rfl ?_
                                                                  refine r_iadd (i := 706) rfl rfl ?_
                                                                  refine r_aI (i := 707) rfl rfl fun x1214 => ?_
                                                                  refine r_aload_n (i := 708) rfl rfl rfl ?_
                                                                  refine r_iload (i := 709) rfl rfl rfl ?_
                                                                  refine r_iconst (i := 710) (2 : Int32) kc_iconst_2 rfl rfl ?_
                                                                  refine r_iadd (i := 711) rfl rfl ?_
                                                                  refine r_aI (i := 712) rfl rfl fun x1220 => ?_
                                                                  refine r_aload_n (i := 713) rfl rfl rfl ?_
                                                                  refine r_iload (i := 714) rfl rfl rfl ?_
                                                                  refine r_iconst (i := 715) (3 : Int32) kc_iconst_3 rfl rfl ?_
                                                                  refine r_iadd (i := 716) rfl rfl ?_
                                                                  refine r_aI (i := 717) rfl rfl fun x1226 => ?_
                                                                  refine r_VwI3 (i := 718) (k2 := 3 * nn + 3) (n2 := 285 * nn + 285) ok_Joy_mean wM_Law0_150 (c_Joy_mean F) (fun _ e => fw_ckb e) (Nat.le_of_ble_eq_true rfl) (by omega) (by omega) (Nat.le_of_ble_eq_true rfl) rfl rfl fun x1227 => ?_
                                                                  refine r_aload_n (i := 719) rfl rfl rfl ?_
                                                                  refine r_aload_n (i := 720) rfl rfl rfl ?_
                                                                  refine r_iload (i := 721) rfl rfl rfl ?_
                                                                  refine r_iconst (i := 722) (1 : Int32) kc_iconst_1 rfl rfl ?_
                                                                  refine r_iadd (i := 723) rfl rfl ?_
                                                                  refine r_aI (i := 724) rfl rfl fun x1236 => ?_
                                                                  refine r_aload_n (i := 725) rfl rfl rfl ?_
                                                                  refine r_iload (i := 726) rfl rfl rfl ?_
                                                                  refine r_iconst (i := 727) (2 : Int32) kc_iconst_2 rfl rfl ?_
                                                                  refine r_iadd (i := 728) rfl rfl ?_
                                                                  refine r_aI (i := 729) rfl rfl fun x1242 => ?_
                                                                  refine r_aload_n (i := 730) rfl rfl rfl ?_
                                                                  refine r_iload (i := 731) rfl rfl rfl ?_
                                                                  refine r_iconst (i := 732) (3 : Int32) kc_iconst_3 rfl rfl ?_
                                                                  refine r_iadd (i := 733) rfl rfl ?_
                                                                  refine r_aI (i := 734) rfl rfl fun x1248 => ?_
                                                                  refine r_VwI3 (i := 735) (k2 := 3 * nn + 3) (n2 := 285 * nn + 285) ok_Mod_mean wM_Law0_153 (c_Mod_mean F) (fun _ e => fw_ckb e) (Nat.le_of_ble_eq_true rfl) (by omega) (by omega) (Nat.le_of_ble_eq_true rfl) rfl rfl fun x1249 => ?_
                                                                  refine r_icmp_eq (i := 736) (tgt := 1557) rfl rfl rfl ?_ ?_
                                                                  · refine r_iinc (i := 943) (6 : Int32) kc_iconst_6 rfl rfl rfl (Nat.le_of_ble_eq_true rfl) ?_
                                                                    refine r_goto (i := 944) (tgt := 23) rfl rfl rfl ?_
                                                                    refine r_wk (k2 := 3 * nn) (n2 := 285 * nn) (by omega) (by omega) ?_
                                                                    exact r_lv (fw_sub1 rfl (fw_sub1 rfl (fw_sub1 rfl (fw_sub1 rfl (fw_sub1 rfl fw_sub0))))) (ih (a23_4 + (6 : Int32)) x1249.2)
                                                                  · refine r_iconst (i := 737) (0 : Int32) kc_iconst_0 rfl rfl ?_
                                                                    exact r_retB (x := false) (i := 738) rfl rfl rfl rfl
                                                                · refine r_split (fun e40_30 => ?_) (fun n40_30 => ?_)
                                                                  · refine r_tinK (i := 24) (tgt := 1257) (len := 184) (v := (30 : Int32)) (off := 1217) e40_30 rfl rfl (by decide) (by decide) rfl ?_
                                                                    refine r_aload_n (i := 739) rfl rfl rfl ?_
                                                                    refine r_aload_n (i := 740) rfl rfl rfl ?_
                                                                    refine r_iload (i := 741) rfl rfl rfl ?_
                                                                    refine r_iconst (i := 742) (1 : Int32) kc_iconst_1 rfl rfl ?_
                                                                    refine r_iadd (i := 743) rfl rfl ?_
                                                                    refine r_aI (i := 744) rfl rfl fun x1263 => ?_
                                                                    refine r_aload_n (i := 745) rfl rfl rfl ?_
                                                                    refine r_iload (i := 746) rfl rfl rfl ?_
                                                                    refine r_iconst (i := 747) (2 : Int32) kc_iconst_2 rfl rfl ?_
                                                                    refine r_iadd (i := 748) rfl rfl ?_
                                                                    refine r_aI (i := 749) rfl rfl fun x1269 => ?_
                                                                    refine r_aload_n (i := 750) rfl rfl rfl ?_
                                                                    refine r_iload (i := 751) rfl rfl rfl ?_
                                                                    refine r_iconst (i := 752) (3 : Int32) kc_iconst_3 rfl rfl ?_
                                                                    refine r_iadd (i := 753) rfl rfl ?_
                                                                    refine r_aI (i := 754) rfl rfl fun x1275 => ?_
                                                                    refine r_aload_n (i := 755) rfl rfl rfl ?_
                                                                    refine r_iload (i := 756) rfl rfl rfl ?_
                                                                    refine r_iconst (i := 757) (4 : Int32) kc_iconst_4 rfl rfl ?_
                                                                    refine r_iadd (i := 758) rfl rfl ?_
                                                                    refine r_aI (i := 759) rfl rfl fun x1281 => ?_
                                                                    refine r_VwI4 (i := 760) (k2 := 3 * nn + 3) (n2 := 285 * nn + 285) ok_Joy_pretend wM_Law0_154 (c_Joy_pretend F) (fun _ e => fw_ckb e) (Nat.le_of_ble_eq_true rfl) (by omega) (by omega) (Nat.le_of_ble_eq_true rfl) rfl rfl fun x1282 => ?_
                                                                    refine r_aload_n (i := 761) rfl rfl rfl ?_
                                                                    refine r_aload_n (i := 762) rfl rfl rfl ?_
                                                                    refine r_iload (i := 763) rfl rfl rfl ?_
                                                                    refine r_iconst (i := 764) (1 : Int32) kc_iconst_1 rfl rfl ?_
                                                                    refine r_iadd (i := 765) rfl rfl ?_
                                                                    refine r_aI (i := 766) rfl rfl fun x1291 => ?_
                                                                    refine r_aload_n (i := 767) rfl rfl rfl ?_
                                                                    refine r_iload (i := 768) rfl rfl rfl ?_
                                                                    refine r_iconst (i := 769) (2 : Int32) kc_iconst_2 rfl rfl ?_
                                                                    refine r_iadd (i := 770) rfl rfl ?_
                                                                    refine r_aI (i := 771) rfl rfl fun x1297 => ?_
                                                                    refine r_aload_n (i := 772) rfl rfl rfl ?_
                                                                    refine r_iload (i := 773) rfl rfl rfl ?_
                                                                    refine r_iconst (i := 774) (3 : Int32) kc_iconst_3 rfl rfl ?_
                                                                    refine r_iadd (i := 775) rfl rfl ?_
                                                                    refine r_aI (i := 776) rfl rfl fun x1303 => ?_
                                                                    refine r_aload_n (i := 777) rfl rfl rfl ?_
                                                                    refine r_iload (i := 778) rfl rfl rfl ?_
                                                                    refine r_iconst (i := 779) (4 : Int32) kc_iconst_4 rfl rfl ?_
                                                                    refine r_iadd (i := 780) rfl rfl ?_
                                                                    refine r_aI (i := 781) rfl rfl fun x1309 => ?_
                                                                    refine r_VwI4 (i := 782) (k2 := 3 * nn + 3) (n2 := 285 * nn + 285) ok_Mod_pretend wM_Law0_158 (c_Mod_pretend F) (fun _ e => fw_ckb e) (Nat.le_of_ble_eq_true rfl) (by omega) (by omega) (Nat.le_of_ble_eq_true rfl) rfl rfl fun x1310 => ?_
                                                                    refine r_icmp_eq (i := 783) (tgt := 1557) rfl rfl rfl ?_ ?_
                                                                    · refine r_iinc (i := 943) (6 : Int32) kc_iconst_6 rfl rfl rfl (Nat.le_of_ble_eq_true rfl) ?_
                                                                      refine r_goto (i := 944) (tgt := 23) rfl rfl rfl ?_
                                                                      refine r_wk (k2 := 3 * nn) (n2 := 285 * nn) (by omega) (by omega) ?_
                                                                      exact r_lv (fw_sub1 rfl (fw_sub1 rfl (fw_sub1 rfl (fw_sub1 rfl (fw_sub1 rfl fw_sub0))))) (ih (a23_4 + (6 : Int32)) x1310.2)
                                                                    · refine r_iconst (i := 784) (0 : Int32) kc_iconst_0 rfl rfl ?_
                                                                      exact r_retB (x := false) (i := 785) rfl rfl rfl rfl
                                                                  · refine r_split (fun e40_31 => ?_) (fun n40_31 => ?_)
                                                                    · refine r_tinK (i := 24) (tgt := 1318) (len := 184) (v := (31 : Int32)) (off := 1278) e40_31 rfl rfl (by decide) (by decide) rfl ?_
                                                                      refine r_aload_n (i := 786) rfl rfl rfl ?_
                                                                      refine r_aload_n (i := 787) rfl rfl rfl ?_
                                                                      refine r_iload (i := 788) rfl rfl rfl ?_
                                                                      refine r_iconst (i := 789) (1 : Int32) kc_iconst_1 rfl rfl ?_
                                                                      refine r_iadd (i := 790) rfl rfl ?_
                                                                      refine r_aI (i := 791) rfl rfl fun x1324 => ?_
                                                                      refine r_aload_n (i := 792) rfl rfl rfl ?_
                                                                      refine r_iload (i := 793) rfl rfl rfl ?_
                                                                      refine r_iconst (i := 794) (2 : Int32) kc_iconst_2 rfl rfl ?_
                                                                      refine r_iadd (i := 795) rfl rfl ?_
                                                                      refine r_aI (i := 796) rfl rfl fun x1330 => ?_
                                                                      refine r_aload_n (i := 797) rfl rfl rfl ?_
                                                                      refine r_iload (i := 798) rfl rfl rfl ?_
                                                                      refine r_iconst (i := 799) (3 : Int32) kc_iconst_3 rfl rfl ?_
                                                                      refine r_iadd (i := 800) rfl rfl ?_
                                                                      refine r_aI (i := 801) rfl rfl fun x1336 => ?_
                                                                      refine r_VwI3 (i := 802) (k2 := 3 * nn + 3) (n2 := 285 * nn + 285) ok_Joy_rests wM_Law0_159 (c_Joy_rests F) (fun _ e => fw_ckb e) (Nat.le_of_ble_eq_true rfl) (by omega) (by omega) (Nat.le_of_ble_eq_true rfl) rfl rfl fun x1337 => ?_
                                                                      refine r_aload_n (i := 803) rfl rfl rfl ?_
                                                                      refine r_aload_n (i := 804) rfl rfl rfl ?_
                                                                      refine r_iload (i := 805) rfl rfl rfl ?_
                                                                      refine r_iconst (i := 806) (1 : Int32) kc_iconst_1 rfl rfl ?_
                                                                      refine r_iadd (i := 807) rfl rfl ?_
                                                                      refine r_aI (i := 808) rfl rfl fun x1346 => ?_
                                                                      refine r_aload_n (i := 809) rfl rfl rfl ?_
                                                                      refine r_iload (i := 810) rfl rfl rfl ?_
                                                                      refine r_iconst (i := 811) (2 : Int32) kc_iconst_2 rfl rfl ?_
                                                                      refine r_iadd (i := 812) rfl rfl ?_
                                                                      refine r_aI (i := 813) rfl rfl fun x1352 => ?_
                                                                      refine r_aload_n (i := 814) rfl rfl rfl ?_
                                                                      refine r_iload (i := 815) rfl rfl rfl ?_
                                                                      refine r_iconst (i := 816) (3 : Int32) kc_iconst_3 rfl rfl ?_
                                                                      refine r_iadd (i := 817) rfl rfl ?_
                                                                      refine r_aI (i := 818) rfl rfl fun x1358 => ?_
                                                                      refine r_VwI3 (i := 819) (k2 := 3 * nn + 3) (n2 := 285 * nn + 285) ok_Mod_rests wM_Law0_162 (c_Mod_rests F) (fun _ e => fw_ckb e) (Nat.le_of_ble_eq_true rfl) (by omega) (by omega) (Nat.le_of_ble_eq_true rfl) rfl rfl fun x1359 => ?_
                                                                      refine r_icmp_eq (i := 820) (tgt := 1557) rfl rfl rfl ?_ ?_
                                                                      · refine r_iinc (i := 943) (6 : Int32) kc_iconst_6 rfl rfl rfl (Nat.le_of_ble_eq_true rfl) ?_
                                                                        refine r_goto (i := 944) (tgt := 23) rfl rfl rfl ?_
                                                                        refine r_wk (k2 := 3 * nn) (n2 := 285 * nn) (by omega) (by omega) ?_
                                                                        exact r_lv (fw_sub1 rfl (fw_sub1 rfl (fw_sub1 rfl (fw_sub1 rfl (fw_sub1 rfl fw_sub0))))) (ih (a23_4 + (6 : Int32)) x1359.2)
                                                                      · refine r_iconst (i := 821) (0 : Int32) kc_iconst_0 rfl rfl ?_
                                                                        exact r_retB (x := false) (i := 822) rfl rfl rfl rfl
                                                                    · refine r_split (fun e40_32 => ?_) (fun n40_32 => ?_)
                                                                      · refine r_tinK (i := 24) (tgt := 1367) (len := 184) (v := (32 : Int32)) (off := 1327) e40_32 rfl rfl (by decide) (by decide) rfl ?_
                                                                        refine r_aload_n (i := 823) rfl rfl rfl ?_
                                                                        refine r_aload_n (i := 824) rfl rfl rfl ?_
                                                                        refine r_iload (i := 825) rfl rfl rfl ?_
                                                                        refine r_iconst (i := 826) (1 : Int32) kc_iconst_1 rfl rfl ?_
                                                                        refine r_iadd (i := 827) rfl rfl ?_
                                                                        refine r_aI (i := 828) rfl rfl fun x1373 => ?_
                                                                        refine r_aload_n (i := 829) rfl rfl rfl ?_
                                                                        refine r_iload (i := 830) rfl rfl rfl ?_
                                                                        refine r_iconst (i := 831) (2 : Int32) kc_iconst_2 rfl rfl ?_
                                                                        refine r_iadd (i := 832) rfl rfl ?_
                                                                        refine r_aI (i := 833) rfl rfl fun x1379 => ?_
                                                                        refine r_VwI2 (i := 834) (k2 := 3 * nn + 3) (n2 := 285 * nn + 285) ok_Joy_see wM_Law0_163 (c_Joy_see) (fun _ e => fw_ckb e) (Nat.le_of_ble_eq_true rfl) (by omega) (by omega) (Nat.le_of_ble_eq_true rfl) rfl rfl fun x1380 => ?_
                                                                        refine r_aload_n (i := 835) rfl rfl rfl ?_
                                                                        refine r_aload_n (i := 836) rfl rfl rfl ?_
                                                                        refine r_iload (i := 837) rfl rfl rfl ?_
                                                                        refine r_iconst (i := 838) (1 : Int32) kc_iconst_1 rfl rfl ?_
                                                                        refine r_iadd (i := 839) rfl rfl ?_
                                                                        refine r_aI (i := 840) rfl rfl fun x1389 => ?_
                                                                        refine r_aload_n (i := 841) rfl rfl rfl ?_
                                                                        refine r_iload (i := 842) rfl rfl rfl ?_
                                                                        refine r_iconst (i := 843) (2 : Int32) kc_iconst_2 rfl rfl ?_
                                                                        refine r_iadd (i := 844) rfl rfl ?_
                                                                        refine r_aI (i := 845) rfl rfl fun x1395 => ?_
                                                                        refine r_VwI2 (i := 846) (k2 := 3 * nn + 3) (n2 := 285 * nn + 285) ok_Mod_see wM_Law0_166 (c_Mod_see) (fun _ e => fw_ckb e) (Nat.le_of_ble_eq_true rfl) (by omega) (by omega) (Nat.le_of_ble_eq_true rfl) rfl rfl fun x1396 => ?_
                                                                        refine r_icmp_eq (i := 847) (tgt := 1557) rfl rfl rfl ?_ ?_
                                                                        · refine r_iinc (i := 943) (6 : Int32) kc_iconst_6 rfl rfl rfl (Nat.le_of_ble_eq_true rfl) ?_
                                                                          refine r_goto (i := 944) (tgt := 23) rfl rfl rfl ?_
                                                                          refine r_wk (k2 := 3 * nn) (n2 := 285 * nn) (by omega) (by omega) ?_
                                                                          exact r_lv (fw_sub1 rfl (fw_sub1 rfl (fw_sub1 rfl (fw_sub1 rfl (fw_sub1 rfl fw_sub0))))) (ih (a23_4 + (6 : Int32)) x1396.2)
                                                                        · refine r_iconst (i := 848) (0 : Int32) kc_iconst_0 rfl rfl ?_
                                                                          exact r_retB (x := false) (i := 849) rfl rfl rfl rfl
                                                                      · refine r_split (fun e40_33 => ?_) (fun n40_33 => ?_)
                                                                        · refine r_tinK (i := 24) (tgt := 1404) (len := 184) (v := (33 : Int32)) (off := 1364) e40_33 rfl rfl (by decide) (by decide) rfl ?_
                                                                          refine r_aload_n (i := 850) rfl rfl rfl ?_
                                                                          refine r_aload_n (i := 851) rfl rfl rfl ?_
                                                                          refine r_iload (i := 852) rfl rfl rfl ?_
                                                                          refine r_iconst (i := 853) (1 : Int32) kc_iconst_1 rfl rfl ?_
                                                                          refine r_iadd (i := 854) rfl rfl ?_
                                                                          refine r_aI (i := 855) rfl rfl fun x1410 => ?_
                                                                          refine r_VwI1 (i := 856) (k2 := 3 * nn + 3) (n2 := 285 * nn + 285) ok_Joy_envied wM_Law0_167 (c_Joy_envied F) (fun _ e => fw_ckb e) (Nat.le_of_ble_eq_true rfl) (by omega) (by omega) (Nat.le_of_ble_eq_true rfl) rfl rfl fun x1411 => ?_
                                                                          refine r_aload_n (i := 857) rfl rfl rfl ?_
                                                                          refine r_aload_n (i := 858) rfl rfl rfl ?_
                                                                          refine r_iload (i := 859) rfl rfl rfl ?_
                                                                          refine r_iconst (i := 860) (1 : Int32) kc_iconst_1 rfl rfl ?_
                                                                          refine r_iadd (i := 861) rfl rfl ?_
                                                                          refine r_aI (i := 862) rfl rfl fun x1420 => ?_
                                                                          refine r_VwI1 (i := 863) (k2 := 3 * nn + 3) (n2 := 285 * nn + 285) ok_Mod_envied wM_Law0_170 (c_Mod_envied F) (fun _ e => fw_ckb e) (Nat.le_of_ble_eq_true rfl) (by omega) (by omega) (Nat.le_of_ble_eq_true rfl) rfl rfl fun x1421 => ?_
                                                                          refine r_icmp_eq (i := 864) (tgt := 1557) rfl rfl rfl ?_ ?_
                                                                          · refine r_iinc (i := 943) (6 : Int32) kc_iconst_6 rfl rfl rfl (Nat.le_of_ble_eq_true rfl) ?_
                                                                            refine r_goto (i := 944) (tgt := 23) rfl rfl rfl ?_
                                                                            refine r_wk (k2 := 3 * nn) (n2 := 285 * nn) (by omega) (by omega) ?_
                                                                            exact r_lv (fw_sub1 rfl (fw_sub1 rfl (fw_sub1 rfl (fw_sub1 rfl (fw_sub1 rfl fw_sub0))))) (ih (a23_4 + (6 : Int32)) x1421.2)
                                                                          · refine r_iconst (i := 865) (0 : Int32) kc_iconst_0 rfl rfl ?_
                                                                            exact r_retB (x := false) (i := 866) rfl rfl rfl rfl
                                                                        · refine r_split (fun e40_34 => ?_) (fun n40_34 => ?_)
                                                                          · refine r_tinK (i := 24) (tgt := 1429) (len := 184) (v := (34 : Int32)) (off := 1389) e40_34 rfl rfl (by decide) (by decide) rfl ?_
                                                                            refine r_aload_n (i := 867) rfl rfl rfl ?_
                                                                            refine r_VwI0 (i := 868) (k2 := 3 * nn + 3) (n2 := 285 * nn + 285) ok_Joy_sure wM_Law0_171 (c_Joy_sure F) (fun _ e => fw_ckb e) (Nat.le_of_ble_eq_true rfl) (by omega) (by omega) (Nat.le_of_ble_eq_true rfl) rfl rfl fun x1430 => ?_
                                                                            refine r_aload_n (i := 869) rfl rfl rfl ?_
                                                                            refine r_VwI0 (i := 870) (k2 := 3 * nn + 3) (n2 := 285 * nn + 285) ok_Mod_sure wM_Law0_174 (c_Mod_sure F) (fun _ e => fw_ckb e) (Nat.le_of_ble_eq_true rfl) (by omega) (by omega) (Nat.le_of_ble_eq_true rfl) rfl rfl fun x1434 => ?_
                                                                            refine r_icmp_eq (i := 871) (tgt := 1557) rfl rfl rfl ?_ ?_
                                                                            · refine r_iinc (i := 943) (6 : Int32) kc_iconst_6 rfl rfl rfl (Nat.le_of_ble_eq_true rfl) ?_
                                                                              refine r_goto (i := 944) (tgt := 23) rfl rfl rfl ?_
                                                                              refine r_wk (k2 := 3 * nn) (n2 := 285 * nn) (by omega) (by omega) ?_
                                                                              exact r_lv (fw_sub1 rfl (fw_sub1 rfl (fw_sub1 rfl (fw_sub1 rfl (fw_sub1 rfl fw_sub0))))) (ih (a23_4 + (6 : Int32)) x1434.2)
                                                                            · refine r_iconst (i := 872) (0 : Int32) kc_iconst_0 rfl rfl ?_
                                                                              exact r_retB (x := false) (i := 873) rfl rfl rfl rfl
                                                                          · refine r_split (fun e40_35 => ?_) (fun n40_35 => ?_)
                                                                            · refine r_tinK (i := 24) (tgt := 1442) (len := 184) (v := (35 : Int32)) (off := 1402) e40_35 rfl rfl (by decide) (by decide) rfl ?_
                                                                              refine r_aload_n (i := 874) rfl rfl rfl ?_
                                                                              refine r_VwI0 (i := 875) (k2 := 3 * nn + 3) (n2 := 285 * nn + 285) ok_Joy_sills wM_Law0_175 (c_Joy_sills F) (fun _ e => fw_ckb e) (Nat.le_of_ble_eq_true rfl) (by omega) (by omega) (Nat.le_of_ble_eq_true rfl) rfl rfl fun x1443 => ?_
                                                                              refine r_aload_n (i := 876) rfl rfl rfl ?_
                                                                              refine r_VwI0 (i := 877) (k2 := 3 * nn + 3) (n2 := 285 * nn + 285) ok_Mod_sills wM_Law0_178 (c_Mod_sills F) (fun _ e => fw_ckb e) (Nat.le_of_ble_eq_true rfl) (by omega) (by omega) (Nat.le_of_ble_eq_true rfl) rfl rfl fun x1447 => ?_
                                                                              refine r_icmp_eq (i := 878) (tgt := 1557) rfl rfl rfl ?_ ?_
                                                                              · refine r_iinc (i := 943) (6 : Int32) kc_iconst_6 rfl rfl rfl (Nat.le_of_ble_eq_true rfl) ?_
                                                                                refine r_goto (i := 944) (tgt := 23) rfl rfl rfl ?_
                                                                                refine r_wk (k2 := 3 * nn) (n2 := 285 * nn) (by omega) (by omega) ?_
                                                                                exact r_lv (fw_sub1 rfl (fw_sub1 rfl (fw_sub1 rfl (fw_sub1 rfl (fw_sub1 rfl fw_sub0))))) (ih (a23_4 + (6 : Int32)) x1447.2)
                                                                              · refine r_iconst (i := 879) (0 : Int32) kc_iconst_0 rfl rfl ?_
                                                                                exact r_retB (x := false) (i := 880) rfl rfl rfl rfl
                                                                            · refine r_split (fun e40_36 => ?_) (fun n40_36 => ?_)
                                                                              · refine r_tinK (i := 24) (tgt := 1455) (len := 184) (v := (36 : Int32)) (off := 1415) e40_36 rfl rfl (by decide) (by decide) rfl ?_
                                                                                refine r_aload_n (i := 881) rfl rfl rfl ?_
                                                                                refine r_aload_n (i := 882) rfl rfl rfl ?_
                                                                                refine r_iload (i := 883) rfl rfl rfl ?_
                                                                                refine r_iconst (i := 884) (1 : Int32) kc_iconst_1 rfl rfl ?_
                                                                                refine r_iadd (i := 885) rfl rfl ?_
                                                                                refine r_aI (i := 886) rfl rfl fun x1461 => ?_
                                                                                refine r_VI1 (i := 887) (k2 := 3 * nn + 3) (n2 := 285 * nn + 285) ok_Joy_sees wM_Law0_179 (c_Joy_sees F) (fun _ e => fw_ckb e) (Nat.le_of_ble_eq_true rfl) (by omega) (by omega) (Nat.le_of_ble_eq_true rfl) rfl rfl fun x1462 => ?_
                                                                                refine r_aload_n (i := 888) rfl rfl rfl ?_
                                                                                refine r_aload_n (i := 889) rfl rfl rfl ?_
                                                                                refine r_iload (i := 890) rfl rfl rfl ?_
                                                                                refine r_iconst (i := 891) (1 : Int32) kc_iconst_1 rfl rfl ?_
                                                                                refine r_iadd (i := 892) rfl rfl ?_
                                                                                refine r_aI (i := 893) rfl rfl fun x1471 => ?_
                                                                                refine r_VI1 (i := 894) (k2 := 3 * nn + 3) (n2 := 285 * nn + 285) ok_Mod_sees wM_Law0_182 (c_Mod_sees F) (fun _ e => fw_ckb e) (Nat.le_of_ble_eq_true rfl) (by omega) (by omega) (Nat.le_of_ble_eq_true rfl) rfl rfl fun x1472 => ?_
                                                                                refine r_icmp_eq (i := 895) (tgt := 1557) rfl rfl rfl ?_ ?_
                                                                                · refine r_iinc (i := 943) (6 : Int32) kc_iconst_6 rfl rfl rfl (Nat.le_of_ble_eq_true rfl) ?_
                                                                                  refine r_goto (i := 944) (tgt := 23) rfl rfl rfl ?_
                                                                                  refine r_wk (k2 := 3 * nn) (n2 := 285 * nn) (by omega) (by omega) ?_
                                                                                  exact r_lv (fw_sub1 rfl (fw_sub1 rfl (fw_sub1 rfl (fw_sub1 rfl (fw_sub1 rfl fw_sub0))))) (ih (a23_4 + (6 : Int32)) g23)
                                                                                · refine r_iconst (i := 896) (0 : Int32) kc_iconst_0 rfl rfl ?_
                                                                                  exact r_retB (x := false) (i := 897) rfl rfl rfl rfl
                                                                              · refine r_split (fun e40_37 => ?_) (fun n40_37 => ?_)
                                                                                · refine r_tinK (i := 24) (tgt := 1480) (len := 184) (v := (37 : Int32)) (off := 1440) e40_37 rfl rfl (by decide) (by decide) rfl ?_
                                                                                  refine r_aload_n (i := 898) rfl rfl rfl ?_
                                                                                  refine r_VI0 (i := 899) (k2 := 3 * nn + 3) (n2 := 285 * nn + 285) ok_Joy_most wM_Law0_183 (c_Joy_most F) (fun _ e => fw_ckb e) (Nat.le_of_ble_eq_true rfl) (by omega) (by omega) (Nat.le_of_ble_eq_true rfl) rfl rfl fun x1481 => ?_
                                                                                  refine r_aload_n (i := 900) rfl rfl rfl ?_
                                                                                  refine r_VI0 (i := 901) (k2 := 3 * nn + 3) (n2 := 285 * nn + 285) ok_Mod_most wM_Law0_186 (c_Mod_most F) (fun _ e => fw_ckb e) (Nat.le_of_ble_eq_true rfl) (by omega) (by omega) (Nat.le_of_ble_eq_true rfl) rfl rfl fun x1485 => ?_
                                                                                  refine r_icmp_eq (i := 902) (tgt := 1557) rfl rfl rfl ?_ ?_
                                                                                  · refine r_iinc (i := 943) (6 : Int32) kc_iconst_6 rfl rfl rfl (Nat.le_of_ble_eq_true rfl) ?_
                                                                                    refine r_goto (i := 944) (tgt := 23) rfl rfl rfl ?_
                                                                                    refine r_wk (k2 := 3 * nn) (n2 := 285 * nn) (by omega) (by omega) ?_
                                                                                    exact r_lv (fw_sub1 rfl (fw_sub1 rfl (fw_sub1 rfl (fw_sub1 rfl (fw_sub1 rfl fw_sub0))))) (ih (a23_4 + (6 : Int32)) g23)
                                                                                  · refine r_iconst (i := 903) (0 : Int32) kc_iconst_0 rfl rfl ?_
                                                                                    exact r_retB (x := false) (i := 904) rfl rfl rfl rfl
                                                                                · refine r_split (fun e40_38 => ?_) (fun n40_38 => ?_)
                                                                                  · refine r_tinK (i := 24) (tgt := 1493) (len := 184) (v := (38 : Int32)) (off := 1453) e40_38 rfl rfl (by decide) (by decide) rfl ?_
                                                                                    refine r_aload_n (i := 905) rfl rfl rfl ?_
                                                                                    refine r_VI0 (i := 906) (k2 := 3 * nn + 3) (n2 := 285 * nn + 285) ok_Joy_widows wM_Law0_187 (c_Joy_widows F) (fun _ e => fw_ckb e) (Nat.le_of_ble_eq_true rfl) (by omega) (by omega) (Nat.le_of_ble_eq_true rfl) rfl rfl fun x1494 => ?_
                                                                                    refine r_aload_n (i := 907) rfl rfl rfl ?_
                                                                                    refine r_VI0 (i := 908) (k2 := 3 * nn + 3) (n2 := 285 * nn + 285) ok_Mod_widows wM_Law0_190 (c_Mod_widows F) (fun _ e => fw_ckb e) (Nat.le_of_ble_eq_true rfl) (by omega) (by omega) (Nat.le_of_ble_eq_true rfl) rfl rfl fun x1498 => ?_
                                                                                    refine r_icmp_eq (i := 909) (tgt := 1557) rfl rfl rfl ?_ ?_
                                                                                    · refine r_iinc (i := 943) (6 : Int32) kc_iconst_6 rfl rfl rfl (Nat.le_of_ble_eq_true rfl) ?_
                                                                                      refine r_goto (i := 944) (tgt := 23) rfl rfl rfl ?_
                                                                                      refine r_wk (k2 := 3 * nn) (n2 := 285 * nn) (by omega) (by omega) ?_
                                                                                      exact r_lv (fw_sub1 rfl (fw_sub1 rfl (fw_sub1 rfl (fw_sub1 rfl (fw_sub1 rfl fw_sub0))))) (ih (a23_4 + (6 : Int32)) g23)
                                                                                    · refine r_iconst (i := 910) (0 : Int32) kc_iconst_0 rfl rfl ?_
                                                                                      exact r_retB (x := false) (i := 911) rfl rfl rfl rfl
                                                                                  · refine r_split (fun e40_39 => ?_) (fun n40_39 => ?_)
                                                                                    · refine r_tinK (i := 24) (tgt := 1506) (len := 184) (v := (39 : Int32)) (off := 1466) e40_39 rfl rfl (by decide) (by decide) rfl ?_
                                                                                      refine r_aload_n (i := 912) rfl rfl rfl ?_
                                                                                      refine r_VwI0 (i := 913) (k2 := 3 * nn + 3) (n2 := 285 * nn + 285) ok_Joy_image wM_Law0_191 (c_Joy_image F) (fun _ e => fw_ckb e) (Nat.le_of_ble_eq_true rfl) (by omega) (by omega) (Nat.le_of_ble_eq_true rfl) rfl rfl fun x1507 => ?_
                                                                                      refine r_aload_n (i := 914) rfl rfl rfl ?_
                                                                                      refine r_VwI0 (i := 915) (k2 := 3 * nn + 3) (n2 := 285 * nn + 285) ok_Mod_image wM_Law0_194 (c_Mod_image F) (fun _ e => fw_ckb e) (Nat.le_of_ble_eq_true rfl) (by omega) (by omega) (Nat.le_of_ble_eq_true rfl) rfl rfl fun x1511 => ?_
                                                                                      refine r_icmp_eq (i := 916) (tgt := 1557) rfl rfl rfl ?_ ?_
                                                                                      · refine r_iinc (i := 943) (6 : Int32) kc_iconst_6 rfl rfl rfl (Nat.le_of_ble_eq_true rfl) ?_
                                                                                        refine r_goto (i := 944) (tgt := 23) rfl rfl rfl ?_
                                                                                        refine r_wk (k2 := 3 * nn) (n2 := 285 * nn) (by omega) (by omega) ?_
                                                                                        exact r_lv (fw_sub1 rfl (fw_sub1 rfl (fw_sub1 rfl (fw_sub1 rfl (fw_sub1 rfl fw_sub0))))) (ih (a23_4 + (6 : Int32)) x1511.2)
                                                                                      · refine r_iconst (i := 917) (0 : Int32) kc_iconst_0 rfl rfl ?_
                                                                                        exact r_retB (x := false) (i := 918) rfl rfl rfl rfl
                                                                                    · refine r_split (fun e40_40 => ?_) (fun n40_40 => ?_)
                                                                                      · refine r_tinK (i := 24) (tgt := 1519) (len := 184) (v := (40 : Int32)) (off := 1479) e40_40 rfl rfl (by decide) (by decide) rfl ?_
                                                                                        refine r_aload_n (i := 919) rfl rfl rfl ?_
                                                                                        refine r_VwI0 (i := 920) (k2 := 3 * nn + 3) (n2 := 285 * nn + 285) ok_Joy_back wM_Law0_195 (c_Joy_back F) (fun _ e => fw_ckb e) (Nat.le_of_ble_eq_true rfl) (by omega) (by omega) (Nat.le_of_ble_eq_true rfl) rfl rfl fun x1520 => ?_
                                                                                        refine r_aload_n (i := 921) rfl rfl rfl ?_
                                                                                        refine r_VwI0 (i := 922) (k2 := 3 * nn + 3) (n2 := 285 * nn + 285) ok_Mod_back wM_Law0_198 (c_Mod_back F) (fun _ e => fw_ckb e) (Nat.le_of_ble_eq_true rfl) (by omega) (by omega) (Nat.le_of_ble_eq_true rfl) rfl rfl fun x1524 => ?_
                                                                                        refine r_icmp_eq (i := 923) (tgt := 1557) rfl rfl rfl ?_ ?_
                                                                                        · refine r_iinc (i := 943) (6 : Int32) kc_iconst_6 rfl rfl rfl (Nat.le_of_ble_eq_true rfl) ?_
                                                                                          refine r_goto (i := 944) (tgt := 23) rfl rfl rfl ?_
                                                                                          refine r_wk (k2 := 3 * nn) (n2 := 285 * nn) (by omega) (by omega) ?_
                                                                                          exact r_lv (fw_sub1 rfl (fw_sub1 rfl (fw_sub1 rfl (fw_sub1 rfl (fw_sub1 rfl fw_sub0))))) (ih (a23_4 + (6 : Int32)) x1524.2)
                                                                                        · refine r_iconst (i := 924) (0 : Int32) kc_iconst_0 rfl rfl ?_
                                                                                          exact r_retB (x := false) (i := 925) rfl rfl rfl rfl
                                                                                      · refine r_split (fun e40_41 => ?_) (fun n40_41 => ?_)
                                                                                        · refine r_tinK (i := 24) (tgt := 1532) (len := 184) (v := (41 : Int32)) (off := 1492) e40_41 rfl rfl (by decide) (by decide) rfl ?_
                                                                                          refine r_aload_n (i := 926) rfl rfl rfl ?_
                                                                                          refine r_aload_n (i := 927) rfl rfl rfl ?_
                                                                                          refine r_iload (i := 928) rfl rfl rfl ?_
                                                                                          refine r_iconst (i := 929) (1 : Int32) kc_iconst_1 rfl rfl ?_
                                                                                          refine r_iadd (i := 930) rfl rfl ?_
                                                                                          refine r_aI (i := 931) rfl rfl fun x1538 => ?_
                                                                                          refine r_VI1 (i := 932) (k2 := 3 * nn + 3) (n2 := 285 * nn + 285) ok_Joy_count wM_Law0_199 (c_Joy_count F) (fun _ e => fw_ckb e) (Nat.le_of_ble_eq_true rfl) (by omega) (by omega) (Nat.le_of_ble_eq_true rfl) rfl rfl fun x1539 => ?_
                                                                                          refine r_aload_n (i := 933) rfl rfl rfl ?_
                                                                                          refine r_aload_n (i := 934) rfl rfl rfl ?_
                                                                                          refine r_iload (i := 935) rfl rfl rfl ?_
                                                                                          refine r_iconst (i := 936) (1 : Int32) kc_iconst_1 rfl rfl ?_
                                                                                          refine r_iadd (i := 937) rfl rfl ?_
                                                                                          refine r_aI (i := 938) rfl rfl fun x1548 => ?_
                                                                                          refine r_VI1 (i := 939) (k2 := 3 * nn + 3) (n2 := 285 * nn + 285) ok_Mod_count wM_Law0_202 (c_Mod_count F) (fun _ e => fw_ckb e) (Nat.le_of_ble_eq_true rfl) (by omega) (by omega) (Nat.le_of_ble_eq_true rfl) rfl rfl fun x1549 => ?_
                                                                                          refine r_icmp_eq (i := 940) (tgt := 1557) rfl rfl rfl ?_ ?_
                                                                                          · refine r_iinc (i := 943) (6 : Int32) kc_iconst_6 rfl rfl rfl (Nat.le_of_ble_eq_true rfl) ?_
                                                                                            refine r_goto (i := 944) (tgt := 23) rfl rfl rfl ?_
                                                                                            refine r_wk (k2 := 3 * nn) (n2 := 285 * nn) (by omega) (by omega) ?_
                                                                                            exact r_lv (fw_sub1 rfl (fw_sub1 rfl (fw_sub1 rfl (fw_sub1 rfl (fw_sub1 rfl fw_sub0))))) (ih (a23_4 + (6 : Int32)) g23)
                                                                                          · refine r_iconst (i := 941) (0 : Int32) kc_iconst_0 rfl rfl ?_
                                                                                            exact r_retB (x := false) (i := 942) rfl rfl rfl rfl
                                                                                        · refine r_tout (i := 24) (tgt := 1557) (len := 184) rfl rfl (by have m0 := fw_ni n40_0 (z := 0) (by decide); have m1 := fw_ni n40_1 (z := 1) (by decide); have m2 := fw_ni n40_2 (z := 2) (by decide); have m3 := fw_ni n40_3 (z := 3) (by decide); have m4 := fw_ni n40_4 (z := 4) (by decide); have m5 := fw_ni n40_5 (z := 5) (by decide); have m6 := fw_ni n40_6 (z := 6) (by decide); have m7 := fw_ni n40_7 (z := 7) (by decide); have m8 := fw_ni n40_8 (z := 8) (by decide); have m9 := fw_ni n40_9 (z := 9) (by decide); have m10 := fw_ni n40_10 (z := 10) (by decide); have m11 := fw_ni n40_11 (z := 11) (by decide); have m12 := fw_ni n40_12 (z := 12) (by decide); have m13 := fw_ni n40_13 (z := 13) (by decide); have m14 := fw_ni n40_14 (z := 14) (by decide); have m15 := fw_ni n40_15 (z := 15) (by decide); have m16 := fw_ni n40_16 (z := 16) (by decide); have m17 := fw_ni n40_17 (z := 17) (by decide); have m18 := fw_ni n40_18 (z := 18) (by decide); have m19 := fw_ni n40_19 (z := 19) (by decide); have m20 := fw_ni n40_20 (z := 20) (by decide); have m21 := fw_ni n40_21 (z := 21) (by decide); have m22 := fw_ni n40_22 (z := 22) (by decide); have m23 := fw_ni n40_23 (z := 23) (by decide); have m24 := fw_ni n40_24 (z := 24) (by decide); have m25 := fw_ni n40_25 (z := 25) (by decide); have m26 := fw_ni n40_26 (z := 26) (by decide); have m27 := fw_ni n40_27 (z := 27) (by decide); have m28 := fw_ni n40_28 (z := 28) (by decide); have m29 := fw_ni n40_29 (z := 29) (by decide); have m30 := fw_ni n40_30 (z := 30) (by decide); have m31 := fw_ni n40_31 (z := 31) (by decide); have m32 := fw_ni n40_32 (z := 32) (by decide); have m33 := fw_ni n40_33 (z := 33) (by decide); have m34 := fw_ni n40_34 (z := 34) (by decide); have m35 := fw_ni n40_35 (z := 35) (by decide); have m36 := fw_ni n40_36 (z := 36) (by decide); have m37 := fw_ni n40_37 (z := 37) (by decide); have m38 := fw_ni n40_38 (z := 38) (by decide); have m39 := fw_ni n40_39 (z := 39) (by decide); have m40 := fw_ni n40_40 (z := 40) (by decide); have m41 := fw_ni n40_41 (z := 41) (by decide); omega) rfl ?_
                                                                                          refine r_iinc (i := 943) (6 : Int32) kc_iconst_6 rfl rfl rfl (Nat.le_of_ble_eq_true rfl) ?_
                                                                                          refine r_goto (i := 944) (tgt := 23) rfl rfl rfl ?_
                                                                                          refine r_wk (k2 := 3 * nn) (n2 := 285 * nn) (by omega) (by omega) ?_
                                                                                          exact r_lv (fw_sub1 rfl (fw_sub1 rfl (fw_sub1 rfl (fw_sub1 rfl (fw_sub1 rfl fw_sub0))))) (ih (a23_4 + (6 : Int32)) g23)
def s_Law0_law (F : Nat) (h : fw_H) (v0 : Option Nat) : Option (Bool × fw_H) :=
fw_new h (fw_O 11 [fw_r none, fw_r none, fw_r none, fw_r none, fw_r none, fw_i 0, fw_r none, fw_r none, fw_i 0, fw_i 0, fw_r none, fw_i 0, fw_r none, fw_r none, fw_r none, fw_r none]) fun q0 h0 =>
(s_Joy_init h0 q0).bind fun h4 =>
fw_new h4 (fw_O 12 [fw_i 0, fw_r none, fw_i 0, fw_i 0, fw_i 0, fw_i 0, fw_r none, fw_r none, fw_r none, fw_r none, fw_r none, fw_r none, fw_r none, fw_i 0, fw_i 0, fw_r none, fw_r none, fw_r none, fw_r none, fw_r none, fw_i 0, fw_i 0, fw_r none, fw_r none, fw_i 0, fw_i 0, fw_r none, fw_r none, fw_i 0, fw_i 0, fw_r none, fw_i 0, fw_i 0, fw_i 0, fw_i 0, fw_r none, fw_i 0, fw_i 0, fw_i 0, fw_i 0, fw_r none, fw_r none, fw_r none, fw_r none, fw_r none, fw_r none, fw_r none, fw_i 0, fw_r none, fw_i 0]) fun q8 h8 =>
(s_Mod_init h8 q8).bind fun h12 =>
fw_new h12 (fw_J 1 (fun _ => 0)) fun q17 h17 =>
l_Law0_law_23 F v0 q0 q8 q17 513 (0 : Int32) h17
theorem cr_Law0_law {G : fw_G} (F : Nat) {h : fw_H} {v0 : Option Nat} : fw_R G m_Law0_law fw_wB 170 (3 * 513 + 82) (285 * 513 + 24176) 0 [(0, some (fw_r v0))] [] h (s_Law0_law F h v0) := by
  refine r_newON (i := 0) (k2 := 3 * 513 + 81) (n2 := 285 * 513 + 24160) (ci := 11) rfl dfl_11 (by omega) (by omega) wC_Law0_8 wN_Joy wI_Joy rfl rfl fun q0 h0 es0 => ?_
  refine r_dup_r (i := 1) rfl rfl ?_
  refine r_NV0 (i := 2) (k2 := 3 * 513 + 29) (n2 := 285 * 513 + 17410) ok_Joy_init wM_Law0_15 es0 (c_Joy_init es0) (Nat.le_of_ble_eq_true rfl) (by omega) (by omega) (Nat.le_of_ble_eq_true rfl) rfl rfl fun h4 => ?_
  refine r_astore_n (i := 3) rfl rfl (Nat.le_of_ble_eq_true rfl) rfl ?_
  refine r_newON (i := 4) (k2 := 3 * 513 + 28) (n2 := 285 * 513 + 17360) (ci := 12) rfl dfl_12 (by omega) (by omega) wC_Law0_16 wN_Mod wI_Mod rfl rfl fun q8 h8 es8 => ?_
  refine r_dup_r (i := 5) rfl rfl ?_
  refine r_NV0 (i := 6) (k2 := 3 * 513 + 1) (n2 := 285 * 513 + 1) ok_Mod_init wM_Law0_18 es8 (c_Mod_init es8) (Nat.le_of_ble_eq_true rfl) (by omega) (by omega) (Nat.le_of_ble_eq_true rfl) rfl rfl fun h12 => ?_
  refine r_astore_n (i := 7) rfl rfl (Nat.le_of_ble_eq_true rfl) rfl ?_
  refine r_iconst (i := 8) (1 : Int32) kc_iconst_1 rfl rfl ?_
  refine r_newJN (i := 9) (k2 := 3 * 513) (n2 := 285 * 513) (N := 1) (by decide) (by decide) (Nat.le_of_ble_eq_true rfl) (by omega) (by omega) wA_long rfl rfl fun q17 h17 => ?_
  refine r_astore_n (i := 10) rfl rfl (Nat.le_of_ble_eq_true rfl) rfl ?_
  refine r_iconst (i := 11) (0 : Int32) kc_iconst_0 rfl rfl ?_
  refine r_istore (i := 12) rfl rfl (Nat.le_of_ble_eq_true rfl) rfl ?_
  refine r_wk (k2 := 3 * 513) (n2 := 285 * 513) (by omega) (by omega) ?_
  refine r_lv (fw_sub1 rfl (fw_sub1 rfl (fw_sub1 rfl (fw_sub1 rfl (fw_sub1 rfl fw_sub0))))) (cl_Law0_law_23 513 _ _)
