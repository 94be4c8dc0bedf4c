set_option maxRecDepth 100000 in
theorem pm_cd_0 : lw_tbl[576]? = some (.code yX0_keep cX0_keep 6 (none)) := rfl
set_option maxRecDepth 100000 in
theorem pm_cd_1 : lw_tbl[580]? = some (.code yX0_dropOldest cX0_dropOldest 1 (none)) := rfl
set_option maxRecDepth 100000 in
theorem pm_cd_2 : lw_tbl[671]? = some (.code yX0_takeBack cX0_takeBack 4 (none)) := rfl
set_option maxRecDepth 100000 in
theorem pm_cd_3 : lw_tbl[743]? = some (.code yX0_copy cX0_copy 2 (none)) := rfl
set_option maxRecDepth 100000 in
theorem pm_cd_4 : lw_tbl[846]? = some (.code yX1_clear cX1_clear 1 (none)) := rfl
set_option maxRecDepth 100000 in
theorem pm_cd_5 : lw_tbl[602]? = some (.code yX1_isTold cX1_isTold 1 (some .boolean)) := rfl
set_option maxRecDepth 100000 in
theorem pm_cd_6 : lw_tbl[598]? = some (.code yX1_uses cX1_uses 2 (some .boolean)) := rfl
set_option maxRecDepth 100000 in
theorem pm_cd_7 : lw_tbl[998]? = some (.code yX1_emit cX1_emit 2 (none)) := rfl
set_option maxRecDepth 100000 in
theorem pm_cd_8 : lw_tbl[1020]? = some (.code yX1_emitValue cX1_emitValue 2 (none)) := rfl
set_option maxRecDepth 100000 in
theorem pm_cd_9 : lw_tbl[614]? = some (.code yX1_worth cX1_worth 6 (some .int)) := rfl
set_option maxRecDepth 100000 in
theorem pm_cd_10 : lw_tbl[617]? = some (.code yX1_joined cX1_joined 3 (some .int)) := rfl
set_option maxRecDepth 100000 in
theorem pm_cd_11 : lw_tbl[1032]? = some (.code yX2_forgetRule cX2_forgetRule 1 (none)) := rfl
set_option maxRecDepth 100000 in
theorem pm_cd_12 : lw_tbl[591]? = some (.code yX2_weave cX2_weave 10 (none)) := rfl
set_option maxRecDepth 100000 in
theorem pm_cd_13 : lw_tbl[621]? = some (.code yX2_rowBy cX2_rowBy 7 (some .int)) := rfl
set_option maxRecDepth 100000 in
theorem pm_cd_14 : lw_tbl[625]? = some (.code yX2_liftedAmong cX2_liftedAmong 4 (some .int)) := rfl
set_option maxRecDepth 100000 in
theorem pm_cd_15 : lw_tbl[606]? = some (.code yX2_learn cX2_learn 8 (none)) := rfl
set_option maxRecDepth 100000 in
theorem pm_cd_16 : lw_tbl[610]? = some (.code yX2_workOut cX2_workOut 5 (some .int)) := rfl
set_option maxRecDepth 100000 in
theorem pm_cd_17 : lw_tbl[685]? = some (.code yX2_keepAside cX2_keepAside 1 (none)) := rfl
set_option maxRecDepth 100000 in
theorem pm_cd_18 : lw_tbl[690]? = some (.code yX2_unlikeAside cX2_unlikeAside 3 (some .int)) := rfl
set_option maxRecDepth 100000 in
theorem pm_cd_19 : lw_tbl[1061]? = some (.code yX2_isAsMovedBy cX2_isAsMovedBy 3 (some .boolean)) := rfl
set_option maxRecDepth 100000 in
theorem pm_cd_20 : lw_tbl[1196]? = some (.code yX2_floatOf cX2_floatOf 6 (some .int)) := rfl
set_option maxRecDepth 100000 in
theorem pm_cd_21 : lw_tbl[637]? = some (.code yX2_startsAt cX2_startsAt 12 (some .int)) := rfl
set_option maxRecDepth 100000 in
theorem pm_cd_22 : lw_tbl[633]? = some (.code yX2_isAnywhere cX2_isAnywhere 4 (some .boolean)) := rfl
set_option maxRecDepth 100000 in
theorem pm_cd_23 : lw_tbl[629]? = some (.code yX2_standing cX2_standing 4 (some .int)) := rfl
set_option maxRecDepth 100000 in
theorem pm_cd_24 : lw_tbl[1351]? = some (.code yX2_coatsFor cX2_coatsFor 4 (some .int)) := rfl
set_option maxRecDepth 100000 in
theorem pm_cd_25 : lw_tbl[560]? = some (.code yX3_append cX3_append 3 (none)) := rfl
set_option maxRecDepth 100000 in
theorem pm_cd_26 : lw_tbl[829]? = some (.code yX3_read cX3_read 4 (some .int)) := rfl
set_option maxRecDepth 100000 in
theorem pm_cd_27 : lw_tbl[931]? = some (.code yX3_fail cX3_fail 2 (none)) := rfl
set_option maxRecDepth 100000 in
theorem pm_cd_28 : lw_tbl[850]? = some (.code yX3_advance cX3_advance 2 (none)) := rfl
set_option maxRecDepth 100000 in
theorem pm_cd_29 : lw_tbl[854]? = some (.code yX3_isLetter cX3_isLetter 2 (some .boolean)) := rfl
set_option maxRecDepth 100000 in
theorem pm_cd_30 : lw_tbl[862]? = some (.code yX3_isDigit cX3_isDigit 2 (some .boolean)) := rfl
set_option maxRecDepth 100000 in
theorem pm_cd_31 : lw_tbl[858]? = some (.code yX3_scanWord cX3_scanWord 3 (some .int)) := rfl
set_option maxRecDepth 100000 in
theorem pm_cd_32 : lw_tbl[866]? = some (.code yX3_scanNumber cX3_scanNumber 3 (some .int)) := rfl
set_option maxRecDepth 100000 in
theorem pm_cd_33 : lw_tbl[969]? = some (.code yX3_isSign cX3_isSign 2 (some .boolean)) := rfl
set_option maxRecDepth 100000 in
theorem pm_cd_34 : lw_tbl[875]? = some (.code yX3_isWord cX3_isWord 3 (some .boolean)) := rfl
set_option maxRecDepth 100000 in
theorem pm_cd_35 : lw_tbl[1025]? = some (.code yX3_needSign cX3_needSign 2 (none)) := rfl
set_option maxRecDepth 100000 in
theorem pm_cd_36 : lw_tbl[935]? = some (.code yX3_readNumber cX3_readNumber 4 (some .int)) := rfl
set_option maxRecDepth 100000 in
theorem pm_cd_37 : lw_tbl[870]? = some (.code yX3_readLine cX3_readLine 2 (none)) := rfl
set_option maxRecDepth 100000 in
theorem pm_cd_38 : lw_tbl[927]? = some (.code yX3_readThreads cX3_readThreads 2 (none)) := rfl
set_option maxRecDepth 100000 in
theorem pm_cd_39 : lw_tbl[941]? = some (.code yX3_readCard cX3_readCard 3 (none)) := rfl
set_option maxRecDepth 100000 in
theorem pm_cd_40 : lw_tbl[946]? = some (.code yX3_readLace cX3_readLace 3 (none)) := rfl
set_option maxRecDepth 100000 in
theorem pm_cd_41 : lw_tbl[950]? = some (.code yX3_readLaced cX3_readLaced 2 (none)) := rfl
set_option maxRecDepth 100000 in
theorem pm_cd_42 : lw_tbl[955]? = some (.code yX3_readFigure cX3_readFigure 5 (none)) := rfl
set_option maxRecDepth 100000 in
theorem pm_cd_43 : lw_tbl[960]? = some (.code yX3_readRule cX3_readRule 3 (none)) := rfl
set_option maxRecDepth 100000 in
theorem pm_cd_44 : lw_tbl[965]? = some (.code yX3_readExpr cX3_readExpr 5 (none)) := rfl
set_option maxRecDepth 100000 in
theorem pm_cd_45 : lw_tbl[973]? = some (.code yX3_readAnd cX3_readAnd 5 (none)) := rfl
set_option maxRecDepth 100000 in
theorem pm_cd_46 : lw_tbl[977]? = some (.code yX3_readNot cX3_readNot 6 (none)) := rfl
set_option maxRecDepth 100000 in
theorem pm_cd_47 : lw_tbl[982]? = some (.code yX3_readTest cX3_readTest 5 (none)) := rfl
set_option maxRecDepth 100000 in
theorem pm_cd_48 : lw_tbl[986]? = some (.code yX3_readSum cX3_readSum 6 (none)) := rfl
set_option maxRecDepth 100000 in
theorem pm_cd_49 : lw_tbl[990]? = some (.code yX3_readProduct cX3_readProduct 6 (none)) := rfl
set_option maxRecDepth 100000 in
theorem pm_cd_50 : lw_tbl[994]? = some (.code yX3_readPart cX3_readPart 5 (none)) := rfl
set_option maxRecDepth 100000 in
theorem pm_cd_51 : lw_tbl[1002]? = some (.code yX3_valueOfUp cX3_valueOfUp 1 (some .int)) := rfl
set_option maxRecDepth 100000 in
theorem pm_cd_52 : lw_tbl[1012]? = some (.code yX3_valueOfHarm cX3_valueOfHarm 1 (some .int)) := rfl
set_option maxRecDepth 100000 in
theorem pm_cd_53 : lw_tbl[1279]? = some (.code yX4_add cX4_add 6 (none)) := rfl
set_option maxRecDepth 100000 in
theorem pm_cd_54 : lw_tbl[747]? = some (.code yX4_copy cX4_copy 3 (none)) := rfl
set_option maxRecDepth 100000 in
theorem pm_cd_55 : lw_tbl[1260]? = some (.code yX5_begin cX5_begin 5 (none)) := rfl
set_option maxRecDepth 100000 in
theorem pm_cd_56 : lw_tbl[1268]? = some (.code yX5_passes cX5_passes 5 (some .boolean)) := rfl
set_option maxRecDepth 100000 in
theorem pm_cd_57 : lw_tbl[1264]? = some (.code yX5_countPassing cX5_countPassing 3 (some .int)) := rfl
set_option maxRecDepth 100000 in
theorem pm_cd_58 : lw_tbl[1305]? = some (.code yX5_leastPassing cX5_leastPassing 2 (some .int)) := rfl
set_option maxRecDepth 100000 in
theorem pm_cd_59 : lw_tbl[714]? = some (.code yX6_between cX6_between 8 (some .int)) := rfl
set_option maxRecDepth 100000 in
theorem pm_cd_60 : lw_tbl[706]? = some (.code yX6_learn cX6_learn 5 (none)) := rfl
set_option maxRecDepth 100000 in
theorem pm_cd_61 : lw_tbl[729]? = some (.code yX6_pairAt cX6_pairAt 4 (some .int)) := rfl
set_option maxRecDepth 100000 in
theorem pm_cd_62 : lw_tbl[725]? = some (.code yX6_sumOf cX6_sumOf 4 (some .int)) := rfl
set_option maxRecDepth 100000 in
theorem pm_cd_63 : lw_tbl[1049]? = some (.code yX6_ofLace cX6_ofLace 3 (some .int)) := rfl
set_option maxRecDepth 100000 in
theorem pm_cd_64 : lw_tbl[702]? = some (.code yX6_bestExchange cX6_bestExchange 8 (some .int)) := rfl
set_option maxRecDepth 100000 in
theorem pm_cd_65 : lw_tbl[1224]? = some (.code yX6_bestOrder cX6_bestOrder 7 (some .int)) := rfl
set_option maxRecDepth 100000 in
theorem pm_cd_66 : lw_tbl[1228]? = some (.code yX6_leastBehind cX6_leastBehind 6 (some .int)) := rfl
set_option maxRecDepth 100000 in
theorem pm_cd_67 : lw_tbl[1233]? = some (.code yX6_stepTo cX6_stepTo 6 (some .int)) := rfl
set_option maxRecDepth 100000 in
theorem pm_cd_68 : lw_tbl[1237]? = some (.code yX6_walkTo cX6_walkTo 9 (some .int)) := rfl
set_option maxRecDepth 100000 in
theorem pm_cd_69 : lw_tbl[835]? = some (.code yX7_clear cX7_clear 1 (none)) := rfl
set_option maxRecDepth 100000 in
theorem pm_cd_70 : lw_tbl[839]? = some (.code yX7_useThreads cX7_useThreads 2 (none)) := rfl
set_option maxRecDepth 100000 in
theorem pm_cd_71 : lw_tbl[1147]? = some (.code yX7_turned cX7_turned 4 (some .int)) := rfl
set_option maxRecDepth 100000 in
theorem pm_cd_72 : lw_tbl[710]? = some (.code yX7_had cX7_had 3 (some .int)) := rfl
set_option maxRecDepth 100000 in
theorem pm_cd_73 : lw_tbl[1346]? = some (.code yX8_clear cX8_clear 2 (none)) := rfl
set_option maxRecDepth 100000 in
theorem pm_cd_74 : lw_tbl[1355]? = some (.code yX8_deal cX8_deal 8 (some .int)) := rfl
set_option maxRecDepth 100000 in
theorem pm_cd_75 : lw_tbl[1359]? = some (.code yX8_mostFrom cX8_mostFrom 5 (some .int)) := rfl
set_option maxRecDepth 100000 in
theorem pm_cd_76 : lw_tbl[1363]? = some (.code yX8_findCoat cX8_findCoat 5 (some .boolean)) := rfl
set_option maxRecDepth 100000 in
theorem pm_cd_77 : lw_tbl[1037]? = some (.code yX9_begin cX9_begin 3 (none)) := rfl
set_option maxRecDepth 100000 in
theorem pm_cd_78 : lw_tbl[738]? = some (.code yX9_copy cX9_copy 2 (none)) := rfl
set_option maxRecDepth 100000 in
theorem pm_cd_79 : lw_tbl[651]? = some (.code yX9_placesOf cX9_placesOf 4 (some .int)) := rfl
set_option maxRecDepth 100000 in
theorem pm_cd_80 : lw_tbl[647]? = some (.code yX9_wearOn cX9_wearOn 2 (none)) := rfl
set_option maxRecDepth 100000 in
theorem pm_cd_81 : lw_tbl[663]? = some (.code yX9_exchange cX9_exchange 4 (none)) := rfl
set_option maxRecDepth 100000 in
theorem pm_cd_82 : lw_tbl[1448]? = some (.code yX9_leaveOut cX9_leaveOut 3 (none)) := rfl
set_option maxRecDepth 100000 in
theorem pm_cd_83 : lw_tbl[572]? = some (.code yX9_packedWear cX9_packedWear 4 (some .long)) := rfl
set_option maxRecDepth 100000 in
theorem pm_cd_84 : lw_tbl[676]? = some (.code yX9_unpackWear cX9_unpackWear 4 (none)) := rfl
set_option maxRecDepth 100000 in
theorem pm_cd_85 : lw_tbl[556]? = some (.code yX10_feed cX10_feed 6 (some .int)) := rfl
set_option maxRecDepth 100000 in
theorem pm_cd_86 : lw_tbl[564]? = some (.code yX10_fault cX10_fault 1 (some .int)) := rfl
set_option maxRecDepth 100000 in
theorem pm_cd_87 : lw_tbl[568]? = some (.code yX10_sundays cX10_sundays 3 (some .int)) := rfl
set_option maxRecDepth 100000 in
theorem pm_cd_88 : lw_tbl[655]? = some (.code yX10_change cX10_change 3 (some .boolean)) := rfl
set_option maxRecDepth 100000 in
theorem pm_cd_89 : lw_tbl[667]? = some (.code yX10_undo cX10_undo 1 (some .int)) := rfl
set_option maxRecDepth 100000 in
theorem pm_cd_90 : lw_tbl[681]? = some (.code yX10_changes cX10_changes 2 (some .int)) := rfl
set_option maxRecDepth 100000 in
theorem pm_cd_91 : lw_tbl[694]? = some (.code yX10_forget cX10_forget 1 (none)) := rfl
set_option maxRecDepth 100000 in
theorem pm_cd_92 : lw_tbl[698]? = some (.code yX10_swap cX10_swap 1 (some .int)) := rfl
set_option maxRecDepth 100000 in
theorem pm_cd_93 : lw_tbl[734]? = some (.code yX10_image cX10_image 1 (none)) := rfl
set_option maxRecDepth 100000 in
theorem pm_cd_94 : lw_tbl[751]? = some (.code yX10_restore cX10_restore 1 (some .boolean)) := rfl
set_option maxRecDepth 100000 in
theorem pm_cd_95 : lw_tbl[659]? = some (.code yX10_isPick cX10_isPick 2 (some .boolean)) := rfl
set_option maxRecDepth 100000 in
theorem pm_cd_96 : lw_tbl[1191]? = some (.code yX10_isThread cX10_isThread 2 (some .boolean)) := rfl
set_option maxRecDepth 100000 in
theorem pm_cd_97 : lw_tbl[1212]? = some (.code yX10_lowestBit cX10_lowestBit 2 (some .int)) := rfl
set_option maxRecDepth 100000 in
theorem pm_cd_98 : lw_tbl[1053]? = some (.code yX10_plainThreads cX10_plainThreads 3 (some .int)) := rfl
set_option maxRecDepth 100000 in
theorem pm_cd_99 : lw_tbl[1057]? = some (.code yX10_repeatOf cX10_repeatOf 2 (some .int)) := rfl
set_option maxRecDepth 100000 in
theorem pm_cd_100 : lw_tbl[1065]? = some (.code yX10_standingNow cX10_standingNow 1 (some .int)) := rfl
set_option maxRecDepth 100000 in
theorem pm_cd_101 : lw_tbl[587]? = some (.code yX10_passSunday cX10_passSunday 2 (none)) := rfl
set_option maxRecDepth 100000 in
theorem pm_cd_102 : lw_tbl[1173]? = some (.code yX10_grantsBehind cX10_grantsBehind 6 (some .int)) := rfl
set_option maxRecDepth 100000 in
theorem pm_cd_103 : lw_tbl[1294]? = some (.code yX10_tryTurned cX10_tryTurned 2 (none)) := rfl
set_option maxRecDepth 100000 in
theorem pm_cd_104 : lw_tbl[1290]? = some (.code yX10_threadsNotAsSeen cX10_threadsNotAsSeen 6 (some .int)) := rfl
set_option maxRecDepth 100000 in
theorem pm_cd_105 : lw_tbl[1248]? = some (.code yX10_isWithinReach cX10_isWithinReach 4 (some .boolean)) := rfl
set_option maxRecDepth 100000 in
theorem pm_cd_106 : lw_tbl[1316]? = some (.code yX10_gatherTurned cX10_gatherTurned 3 (some .int)) := rfl
set_option maxRecDepth 100000 in
theorem pm_cd_107 : lw_tbl[1321]? = some (.code yX10_unlikeRowsAt cX10_unlikeRowsAt 7 (some .int)) := rfl
set_option maxRecDepth 100000 in
theorem pm_cd_108 : lw_tbl[1334]? = some (.code yX10_addSundayToCosts cX10_addSundayToCosts 4 (none)) := rfl
set_option maxRecDepth 100000 in
theorem pm_cd_109 : lw_tbl[1383]? = some (.code yX10_sideHoles cX10_sideHoles 4 (some .int)) := rfl
set_option maxRecDepth 100000 in
theorem pm_cd_110 : lw_tbl[1379]? = some (.code yX10_gainOf cX10_gainOf 9 (some .int)) := rfl
set_option maxRecDepth 100000 in
theorem pm_cd_111 : lw_tbl[1375]? = some (.code yX10_isAtRest cX10_isAtRest 5 (some .boolean)) := rfl
set_option maxRecDepth 100000 in
theorem pm_cd_112 : lw_tbl[1397]? = some (.code yX10_stepped cX10_stepped 1 (some .int)) := rfl
set_option maxRecDepth 100000 in
theorem pm_cd_113 : lw_tbl[1401]? = some (.code yX10_drawOf cX10_drawOf 2 (some .int)) := rfl
set_option maxRecDepth 100000 in
theorem pm_cd_114 : lw_tbl[1394]? = some (.code yX10_befall cX10_befall 5 (some .int)) := rfl
set_option maxRecDepth 100000 in
theorem pm_cd_115 : lw_tbl[1405]? = some (.code yX10_wearOfAll cX10_wearOfAll 4 (some .int)) := rfl
set_option maxRecDepth 100000 in
theorem pm_cd_116 : lw_tbl[1409]? = some (.code yX10_threadsUp cX10_threadsUp 4 (some .int)) := rfl
set_option maxRecDepth 100000 in
theorem pm_cd_117 : lw_tbl[1676]? = some (.code yX11_thrown cX11_thrown 1 (some .int)) := rfl
set_option maxRecDepth 100000 in
theorem pm_cd_118 : lw_tbl[1692]? = some (.code yX11_right cX11_right 3 (some .boolean)) := rfl
set_option maxRecDepth 100000 in
theorem pm_cd_119 : lw_tbl[1826]? = some (.code yX11_within cX11_within 3 (some .boolean)) := rfl
set_option maxRecDepth 100000 in
theorem pm_cd_120 : lw_tbl[1867]? = some (.code yX11_kept cX11_kept 3 (some .int)) := rfl
set_option maxRecDepth 100000 in
theorem pm_cd_121 : lw_tbl[2023]? = some (.code yX11_lesser cX11_lesser 2 (some .int)) := rfl
set_option maxRecDepth 100000 in
theorem pm_cd_122 : lw_tbl[1807]? = some (.code yX11_copies cX11_copies 4 (none)) := rfl
set_option maxRecDepth 100000 in
theorem pm_cd_123 : lw_tbl[1864]? = some (.code yX11_bits cX11_bits 3 (some .int)) := rfl
set_option maxRecDepth 100000 in
theorem pm_cd_124 : lw_tbl[1680]? = some (.code yX11_feed cX11_feed 6 (some .int)) := rfl
set_option maxRecDepth 100000 in
theorem pm_cd_125 : lw_tbl[1684]? = some (.code yX11_lays cX11_lays 3 (none)) := rfl
set_option maxRecDepth 100000 in
theorem pm_cd_126 : lw_tbl[1700]? = some (.code yX11_byteAt cX11_byteAt 2 (some .int)) := rfl
set_option maxRecDepth 100000 in
theorem pm_cd_127 : lw_tbl[1703]? = some (.code yX11_isLetter cX11_isLetter 1 (some .boolean)) := rfl
set_option maxRecDepth 100000 in
theorem pm_cd_128 : lw_tbl[1706]? = some (.code yX11_isDigit cX11_isDigit 1 (some .boolean)) := rfl
set_option maxRecDepth 100000 in
theorem pm_cd_129 : lw_tbl[1696]? = some (.code yX11_goes cX11_goes 2 (none)) := rfl
set_option maxRecDepth 100000 in
theorem pm_cd_130 : lw_tbl[1724]? = some (.code yX11_spelled cX11_spelled 9 (some .long)) := rfl
set_option maxRecDepth 100000 in
theorem pm_cd_131 : lw_tbl[1721]? = some (.code yX11_letters cX11_letters 1 (some .long)) := rfl
set_option maxRecDepth 100000 in
theorem pm_cd_132 : lw_tbl[1718]? = some (.code yX11_knownWord cX11_knownWord 2 (some .int)) := rfl
set_option maxRecDepth 100000 in
theorem pm_cd_133 : lw_tbl[1733]? = some (.code yX11_wrong cX11_wrong 2 (none)) := rfl
set_option maxRecDepth 100000 in
theorem pm_cd_134 : lw_tbl[1710]? = some (.code yX11_isGood cX11_isGood 1 (some .boolean)) := rfl
set_option maxRecDepth 100000 in
theorem pm_cd_135 : lw_tbl[1765]? = some (.code yX11_isSign cX11_isSign 2 (some .boolean)) := rfl
set_option maxRecDepth 100000 in
theorem pm_cd_136 : lw_tbl[1803]? = some (.code yX11_need cX11_need 2 (none)) := rfl
set_option maxRecDepth 100000 in
theorem pm_cd_137 : lw_tbl[1737]? = some (.code yX11_number cX11_number 4 (some .int)) := rfl
set_option maxRecDepth 100000 in
theorem pm_cd_138 : lw_tbl[1749]? = some (.code yX11_among cX11_among 3 (some .int)) := rfl
set_option maxRecDepth 100000 in
theorem pm_cd_139 : lw_tbl[1781]? = some (.code yX11_puts cX11_puts 2 (none)) := rfl
set_option maxRecDepth 100000 in
theorem pm_cd_140 : lw_tbl[1788]? = some (.code yX11_isOpen cX11_isOpen 1 (some .boolean)) := rfl
set_option maxRecDepth 100000 in
theorem pm_cd_141 : lw_tbl[1791]? = some (.code yX11_strength cX11_strength 1 (some .int)) := rfl
set_option maxRecDepth 100000 in
theorem pm_cd_142 : lw_tbl[1785]? = some (.code yX11_drops cX11_drops 2 (none)) := rfl
set_option maxRecDepth 100000 in
theorem pm_cd_143 : lw_tbl[1773]? = some (.code yX11_waitsFor cX11_waitsFor 2 (none)) := rfl
set_option maxRecDepth 100000 in
theorem pm_cd_144 : lw_tbl[1777]? = some (.code yX11_part cX11_part 2 (none)) := rfl
set_option maxRecDepth 100000 in
theorem pm_cd_145 : lw_tbl[1761]? = some (.code yX11_deeper cX11_deeper 1 (none)) := rfl
set_option maxRecDepth 100000 in
theorem pm_cd_146 : lw_tbl[1769]? = some (.code yX11_operand cX11_operand 5 (none)) := rfl
set_option maxRecDepth 100000 in
theorem pm_cd_147 : lw_tbl[1795]? = some (.code yX11_isOpened cX11_isOpened 2 (some .boolean)) := rfl
set_option maxRecDepth 100000 in
theorem pm_cd_148 : lw_tbl[1799]? = some (.code yX11_closes cX11_closes 1 (none)) := rfl
set_option maxRecDepth 100000 in
theorem pm_cd_149 : lw_tbl[1757]? = some (.code yX11_expression cX11_expression 5 (none)) := rfl
set_option maxRecDepth 100000 in
theorem pm_cd_150 : lw_tbl[1741]? = some (.code yX11_readsCard cX11_readsCard 1 (none)) := rfl
set_option maxRecDepth 100000 in
theorem pm_cd_151 : lw_tbl[1745]? = some (.code yX11_readsLace cX11_readsLace 3 (none)) := rfl
set_option maxRecDepth 100000 in
theorem pm_cd_152 : lw_tbl[1753]? = some (.code yX11_readsFigure cX11_readsFigure 5 (none)) := rfl
set_option maxRecDepth 100000 in
theorem pm_cd_153 : lw_tbl[1729]? = some (.code yX11_begins cX11_begins 2 (some .boolean)) := rfl
set_option maxRecDepth 100000 in
theorem pm_cd_154 : lw_tbl[1714]? = some (.code yX11_line cX11_line 2 (none)) := rfl
set_option maxRecDepth 100000 in
theorem pm_cd_155 : lw_tbl[1688]? = some (.code yX11_chapel cX11_chapel 3 (some .int)) := rfl
set_option maxRecDepth 100000 in
theorem pm_cd_156 : lw_tbl[1815]? = some (.code yX11_fault cX11_fault 1 (some .int)) := rfl
set_option maxRecDepth 100000 in
theorem pm_cd_157 : lw_tbl[1935]? = some (.code yX11_keeps cX11_keeps 2 (none)) := rfl
set_option maxRecDepth 100000 in
theorem pm_cd_158 : lw_tbl[1931]? = some (.code yX11_refuses cX11_refuses 2 (some .int)) := rfl
set_option maxRecDepth 100000 in
theorem pm_cd_159 : lw_tbl[1819]? = some (.code yX11_undo cX11_undo 2 (some .int)) := rfl
set_option maxRecDepth 100000 in
theorem pm_cd_160 : lw_tbl[1975]? = some (.code yX11_tries cX11_tries 2 (none)) := rfl
set_option maxRecDepth 100000 in
theorem pm_cd_161 : lw_tbl[1811]? = some (.code yX11_all cX11_all 1 (some .int)) := rfl
set_option maxRecDepth 100000 in
theorem pm_cd_162 : lw_tbl[1849]? = some (.code yX11_works cX11_works 3 (some .int)) := rfl
set_option maxRecDepth 100000 in
theorem pm_cd_163 : lw_tbl[1846]? = some (.code yX11_reckons cX11_reckons 5 (some .int)) := rfl
set_option maxRecDepth 100000 in
theorem pm_cd_164 : lw_tbl[1842]? = some (.code yX11_holesOf cX11_holesOf 3 (some .int)) := rfl
set_option maxRecDepth 100000 in
theorem pm_cd_165 : lw_tbl[1861]? = some (.code yX11_snarlWith cX11_snarlWith 7 (some .int)) := rfl
set_option maxRecDepth 100000 in
theorem pm_cd_166 : lw_tbl[1857]? = some (.code yX11_snarlOf cX11_snarlOf 3 (some .int)) := rfl
set_option maxRecDepth 100000 in
theorem pm_cd_167 : lw_tbl[1838]? = some (.code yX11_upsOf cX11_upsOf 8 (some .int)) := rfl
set_option maxRecDepth 100000 in
theorem pm_cd_168 : lw_tbl[1834]? = some (.code yX11_weavesBut cX11_weavesBut 5 (none)) := rfl
set_option maxRecDepth 100000 in
theorem pm_cd_169 : lw_tbl[1830]? = some (.code yX11_weaves cX11_weaves 2 (none)) := rfl
set_option maxRecDepth 100000 in
theorem pm_cd_170 : lw_tbl[1887]? = some (.code yX11_standsAt cX11_standsAt 5 (some .boolean)) := rfl
set_option maxRecDepth 100000 in
theorem pm_cd_171 : lw_tbl[1883]? = some (.code yX11_firstOf cX11_firstOf 4 (some .int)) := rfl
set_option maxRecDepth 100000 in
theorem pm_cd_172 : lw_tbl[1879]? = some (.code yX11_standing cX11_standing 3 (some .int)) := rfl
set_option maxRecDepth 100000 in
theorem pm_cd_173 : lw_tbl[1903]? = some (.code yX11_placesOf cX11_placesOf 5 (some .int)) := rfl
set_option maxRecDepth 100000 in
theorem pm_cd_174 : lw_tbl[1939]? = some (.code yX11_sundayGoes cX11_sundayGoes 3 (none)) := rfl
set_option maxRecDepth 100000 in
theorem pm_cd_175 : lw_tbl[1979]? = some (.code yX11_sundaysGo cX11_sundaysGo 3 (none)) := rfl
set_option maxRecDepth 100000 in
theorem pm_cd_176 : lw_tbl[1853]? = some (.code yX11_laceSnarl cX11_laceSnarl 3 (some .int)) := rfl
set_option maxRecDepth 100000 in
theorem pm_cd_177 : lw_tbl[1871]? = some (.code yX11_plain cX11_plain 3 (some .int)) := rfl
set_option maxRecDepth 100000 in
theorem pm_cd_178 : lw_tbl[1875]? = some (.code yX11_repeat cX11_repeat 4 (some .int)) := rfl
set_option maxRecDepth 100000 in
theorem pm_cd_179 : lw_tbl[1823]? = some (.code yX11_count cX11_count 2 (some .int)) := rfl
set_option maxRecDepth 100000 in
theorem pm_cd_180 : lw_tbl[1895]? = some (.code yX11_isCard cX11_isCard 2 (some .boolean)) := rfl
set_option maxRecDepth 100000 in
theorem pm_cd_181 : lw_tbl[1911]? = some (.code yX11_isPick cX11_isPick 2 (some .boolean)) := rfl
set_option maxRecDepth 100000 in
theorem pm_cd_182 : lw_tbl[1919]? = some (.code yX11_isFigure cX11_isFigure 2 (some .boolean)) := rfl
set_option maxRecDepth 100000 in
theorem pm_cd_183 : lw_tbl[1899]? = some (.code yX11_isWhat cX11_isWhat 3 (some .boolean)) := rfl
set_option maxRecDepth 100000 in
theorem pm_cd_184 : lw_tbl[1891]? = some (.code yX11_card cX11_card 3 (some .int)) := rfl
set_option maxRecDepth 100000 in
theorem pm_cd_185 : lw_tbl[1907]? = some (.code yX11_lace cX11_lace 2 (some .int)) := rfl
set_option maxRecDepth 100000 in
theorem pm_cd_186 : lw_tbl[1915]? = some (.code yX11_figure cX11_figure 3 (some .int)) := rfl
set_option maxRecDepth 100000 in
theorem pm_cd_187 : lw_tbl[1923]? = some (.code yX11_snarl cX11_snarl 3 (some .int)) := rfl
set_option maxRecDepth 100000 in
theorem pm_cd_188 : lw_tbl[1927]? = some (.code yX11_sundays cX11_sundays 3 (some .int)) := rfl
set_option maxRecDepth 100000 in
theorem pm_cd_189 : lw_tbl[1943]? = some (.code yX11_punch cX11_punch 4 (some .int)) := rfl
set_option maxRecDepth 100000 in
theorem pm_cd_190 : lw_tbl[1951]? = some (.code yX11_turned cX11_turned 4 (some .int)) := rfl
set_option maxRecDepth 100000 in
theorem pm_cd_191 : lw_tbl[1947]? = some (.code yX11_turn cX11_turn 2 (some .int)) := rfl
set_option maxRecDepth 100000 in
theorem pm_cd_192 : lw_tbl[1955]? = some (.code yX11_cut cX11_cut 3 (some .int)) := rfl
set_option maxRecDepth 100000 in
theorem pm_cd_193 : lw_tbl[1963]? = some (.code yX11_swaps cX11_swaps 5 (none)) := rfl
set_option maxRecDepth 100000 in
theorem pm_cd_194 : lw_tbl[1959]? = some (.code yX11_change cX11_change 3 (some .boolean)) := rfl
set_option maxRecDepth 100000 in
theorem pm_cd_195 : lw_tbl[1971]? = some (.code yX11_isSundays cX11_isSundays 4 (some .boolean)) := rfl
set_option maxRecDepth 100000 in
theorem pm_cd_196 : lw_tbl[1967]? = some (.code yX11_then cX11_then 3 (some .int)) := rfl
set_option maxRecDepth 100000 in
theorem pm_cd_197 : lw_tbl[1983]? = some (.code yX11_granted cX11_granted 2 (some .int)) := rfl
set_option maxRecDepth 100000 in
theorem pm_cd_198 : lw_tbl[1987]? = some (.code yX11_worn cX11_worn 2 (some .int)) := rfl
set_option maxRecDepth 100000 in
theorem pm_cd_199 : lw_tbl[1995]? = some (.code yX11_laysNow cX11_laysNow 1 (none)) := rfl
set_option maxRecDepth 100000 in
theorem pm_cd_200 : lw_tbl[1999]? = some (.code yX11_isLikeNow cX11_isLikeNow 2 (some .boolean)) := rfl
set_option maxRecDepth 100000 in
theorem pm_cd_201 : lw_tbl[1991]? = some (.code yX11_changes cX11_changes 2 (some .int)) := rfl
set_option maxRecDepth 100000 in
theorem pm_cd_202 : lw_tbl[2007]? = some (.code yX11_floatOf cX11_floatOf 5 (some .int)) := rfl
set_option maxRecDepth 100000 in
theorem pm_cd_203 : lw_tbl[2003]? = some (.code yX11_floats cX11_floats 4 (some .int)) := rfl
set_option maxRecDepth 100000 in
theorem pm_cd_204 : lw_tbl[2011]? = some (.code yX11_stands cX11_stands 6 (some .int)) := rfl
set_option maxRecDepth 100000 in
theorem pm_cd_205 : lw_tbl[2019]? = some (.code yX11_laysOrder cX11_laysOrder 6 (none)) := rfl
set_option maxRecDepth 100000 in
theorem pm_cd_206 : lw_tbl[2015]? = some (.code yX11_order cX11_order 10 (some .int)) := rfl
set_option maxRecDepth 100000 in
theorem pm_cd_207 : lw_tbl[2027]? = some (.code yX11_punching cX11_punching 8 (some .int)) := rfl
set_option maxRecDepth 100000 in
theorem pm_cd_208 : lw_tbl[2031]? = some (.code yX11_same cX11_same 4 (some .int)) := rfl
set_option maxRecDepth 100000 in
theorem pm_cd_209 : lw_tbl[2035]? = some (.code yX11_see cX11_see 5 (some .int)) := rfl
set_option maxRecDepth 100000 in
theorem pm_cd_210 : lw_tbl[2039]? = some (.code yX11_forget cX11_forget 1 (none)) := rfl
set_option maxRecDepth 100000 in
theorem pm_cd_211 : lw_tbl[2047]? = some (.code yX11_isSeen cX11_isSeen 4 (some .boolean)) := rfl
set_option maxRecDepth 100000 in
theorem pm_cd_212 : lw_tbl[2051]? = some (.code yX11_triesTurned cX11_triesTurned 2 (none)) := rfl
set_option maxRecDepth 100000 in
theorem pm_cd_213 : lw_tbl[2043]? = some (.code yX11_backwards cX11_backwards 5 (some .int)) := rfl
set_option maxRecDepth 100000 in
theorem pm_cd_214 : lw_tbl[2055]? = some (.code yX11_punched cX11_punched 6 (some .int)) := rfl
set_option maxRecDepth 100000 in
theorem pm_cd_215 : lw_tbl[2059]? = some (.code yX11_next cX11_next 10 (some .int)) := rfl
set_option maxRecDepth 100000 in
theorem pm_cd_216 : lw_tbl[2063]? = some (.code yX11_toCut cX11_toCut 10 (some .int)) := rfl
set_option maxRecDepth 100000 in
theorem pm_cd_217 : lw_tbl[2075]? = some (.code yX11_isCoat cX11_isCoat 3 (some .boolean)) := rfl
set_option maxRecDepth 100000 in
theorem pm_cd_218 : lw_tbl[2071]? = some (.code yX11_mostOf cX11_mostOf 3 (some .int)) := rfl
set_option maxRecDepth 100000 in
theorem pm_cd_219 : lw_tbl[2067]? = some (.code yX11_coats cX11_coats 6 (some .int)) := rfl
set_option maxRecDepth 100000 in
theorem pm_cd_220 : lw_tbl[2087]? = some (.code yX11_holesBy cX11_holesBy 3 (some .int)) := rfl
set_option maxRecDepth 100000 in
theorem pm_cd_221 : lw_tbl[2083]? = some (.code yX11_gains cX11_gains 9 (some .int)) := rfl
set_option maxRecDepth 100000 in
theorem pm_cd_222 : lw_tbl[2079]? = some (.code yX11_game cX11_game 9 (some .int)) := rfl
set_option maxRecDepth 100000 in
theorem pm_cd_223 : lw_tbl[2099]? = some (.code yX11_draw cX11_draw 2 (some .int)) := rfl
set_option maxRecDepth 100000 in
theorem pm_cd_224 : lw_tbl[2095]? = some (.code yX11_happens cX11_happens 4 (none)) := rfl
set_option maxRecDepth 100000 in
theorem pm_cd_225 : lw_tbl[2091]? = some (.code yX11_drawn cX11_drawn 6 (some .int)) := rfl
set_option maxRecDepth 100000 in
theorem pm_cd_226 : lw_tbl[2104]? = some (.code yX11_gap cX11_gap 7 (some .int)) := rfl
set_option maxRecDepth 100000 in
theorem pm_cd_227 : lw_tbl[2108]? = some (.code yX11_unlike cX11_unlike 3 (some .int)) := rfl
set_option maxRecDepth 100000 in
theorem pm_cd_228 : lw_tbl[2112]? = some (.code yX11_family cX11_family 5 (some .int)) := rfl
set_option maxRecDepth 100000 in
theorem pm_cd_229 : lw_tbl[2116]? = some (.code yX11_turning cX11_turning 4 (some .int)) := rfl
set_option maxRecDepth 100000 in
theorem pm_cd_230 : lw_tbl[2120]? = some (.code yX11_leftOut cX11_leftOut 2 (some .int)) := rfl
set_option maxRecDepth 100000 in
theorem pm_cd_231 : lw_tbl[2124]? = some (.code yX11_cutting cX11_cutting 5 (some .int)) := rfl
set_option maxRecDepth 100000 in
theorem pm_cd_232 : lw_tbl[2128]? = some (.code yX11_mirrored cX11_mirrored 3 (some .boolean)) := rfl
set_option maxRecDepth 100000 in
theorem pm_cd_233 : lw_tbl[2132]? = some (.code yX11_swap cX11_swap 6 (some .int)) := rfl
set_option maxRecDepth 100000 in
theorem pm_cd_234 : lw_tbl[2136]? = some (.code yX11_image cX11_image 2 (none)) := rfl
set_option maxRecDepth 100000 in
theorem pm_cd_235 : lw_tbl[2140]? = some (.code yX11_restore cX11_restore 2 (some .boolean)) := rfl
set_option maxRecDepth 100000 in
theorem pm_cd_236 : lw_tbl[640]? = some (.code yJ6_bitCount_0f7a4 cJ6_bitCount_0f7a4 1 (some .int)) := rfl
set_option maxRecDepth 100000 in
theorem pm_cd_237 : lw_tbl[842]? = some (.code yJ7_fill_53178 cJ7_fill_53178 4 (none)) := rfl
set_option maxRecDepth 100000 in
theorem pm_cd_238 : lw_tbl[335]? = some (.code yX0_init cX0_init 1 (none)) := rfl
set_option maxRecDepth 100000 in
theorem pm_cd_239 : lw_tbl[393]? = some (.code yX1_init cX1_init 1 (none)) := rfl
set_option maxRecDepth 100000 in
theorem pm_cd_240 : lw_tbl[206]? = some (.code yX2_init cX2_init 1 (none)) := rfl
set_option maxRecDepth 100000 in
theorem pm_cd_241 : lw_tbl[166]? = some (.code yX3_init cX3_init 1 (none)) := rfl
set_option maxRecDepth 100000 in
theorem pm_cd_242 : lw_tbl[359]? = some (.code yX4_init cX4_init 1 (none)) := rfl
set_option maxRecDepth 100000 in
theorem pm_cd_243 : lw_tbl[234]? = some (.code yX5_init cX5_init 1 (none)) := rfl
set_option maxRecDepth 100000 in
theorem pm_cd_244 : lw_tbl[252]? = some (.code yX6_init cX6_init 1 (none)) := rfl
set_option maxRecDepth 100000 in
theorem pm_cd_245 : lw_tbl[387]? = some (.code yX7_init cX7_init 1 (none)) := rfl
set_option maxRecDepth 100000 in
theorem pm_cd_246 : lw_tbl[268]? = some (.code yX8_init cX8_init 1 (none)) := rfl
set_option maxRecDepth 100000 in
theorem pm_cd_247 : lw_tbl[292]? = some (.code yX9_init cX9_init 1 (none)) := rfl
set_option maxRecDepth 100000 in
theorem pm_cd_248 : lw_tbl[158]? = some (.code yX10_init cX10_init 1 (none)) := rfl
set_option maxRecDepth 100000 in
theorem pm_cd_249 : lw_tbl[759]? = some (.code yX10_chapel cX10_chapel 4 (some .int)) := rfl
set_option maxRecDepth 100000 in
theorem pm_cd_250 : lw_tbl[1045]? = some (.code yX10_count cX10_count 2 (some .int)) := rfl
set_option maxRecDepth 100000 in
theorem pm_cd_251 : lw_tbl[1088]? = some (.code yX10_card cX10_card 3 (some .int)) := rfl
set_option maxRecDepth 100000 in
theorem pm_cd_252 : lw_tbl[1103]? = some (.code yX10_lace cX10_lace 2 (some .int)) := rfl
set_option maxRecDepth 100000 in
theorem pm_cd_253 : lw_tbl[1115]? = some (.code yX10_figure cX10_figure 3 (some .int)) := rfl
set_option maxRecDepth 100000 in
theorem pm_cd_254 : lw_tbl[1128]? = some (.code yX10_snarl cX10_snarl 3 (some .int)) := rfl
set_option maxRecDepth 100000 in
theorem pm_cd_255 : lw_tbl[1136]? = some (.code yX10_punch cX10_punch 4 (some .int)) := rfl
set_option maxRecDepth 100000 in
theorem pm_cd_256 : lw_tbl[1143]? = some (.code yX10_turn cX10_turn 2 (some .int)) := rfl
set_option maxRecDepth 100000 in
theorem pm_cd_257 : lw_tbl[1154]? = some (.code yX10_cut cX10_cut 3 (some .int)) := rfl
set_option maxRecDepth 100000 in
theorem pm_cd_258 : lw_tbl[1161]? = some (.code yX10_then cX10_then 3 (some .int)) := rfl
set_option maxRecDepth 100000 in
theorem pm_cd_259 : lw_tbl[1169]? = some (.code yX10_granted cX10_granted 2 (some .int)) := rfl
set_option maxRecDepth 100000 in
theorem pm_cd_260 : lw_tbl[1180]? = some (.code yX10_worn cX10_worn 2 (some .int)) := rfl
set_option maxRecDepth 100000 in
theorem pm_cd_261 : lw_tbl[1187]? = some (.code yX10_floats cX10_floats 4 (some .int)) := rfl
set_option maxRecDepth 100000 in
theorem pm_cd_262 : lw_tbl[1204]? = some (.code yX10_stands cX10_stands 6 (some .int)) := rfl
set_option maxRecDepth 100000 in
theorem pm_cd_263 : lw_tbl[1219]? = some (.code yX10_order cX10_order 2 (some .int)) := rfl
set_option maxRecDepth 100000 in
theorem pm_cd_264 : lw_tbl[1244]? = some (.code yX10_punching cX10_punching 9 (some .int)) := rfl
set_option maxRecDepth 100000 in
theorem pm_cd_265 : lw_tbl[1256]? = some (.code yX10_same cX10_same 3 (some .int)) := rfl
set_option maxRecDepth 100000 in
theorem pm_cd_266 : lw_tbl[1275]? = some (.code yX10_see cX10_see 5 (some .int)) := rfl
set_option maxRecDepth 100000 in
theorem pm_cd_267 : lw_tbl[1286]? = some (.code yX10_backwards cX10_backwards 4 (some .int)) := rfl
set_option maxRecDepth 100000 in
theorem pm_cd_268 : lw_tbl[1301]? = some (.code yX10_punched cX10_punched 4 (some .int)) := rfl
set_option maxRecDepth 100000 in
theorem pm_cd_269 : lw_tbl[1312]? = some (.code yX10_next cX10_next 7 (some .int)) := rfl
set_option maxRecDepth 100000 in
theorem pm_cd_270 : lw_tbl[1328]? = some (.code yX10_toCut cX10_toCut 7 (some .int)) := rfl
set_option maxRecDepth 100000 in
theorem pm_cd_271 : lw_tbl[1342]? = some (.code yX10_coats cX10_coats 3 (some .int)) := rfl
set_option maxRecDepth 100000 in
theorem pm_cd_272 : lw_tbl[1370]? = some (.code yX10_game cX10_game 8 (some .int)) := rfl
set_option maxRecDepth 100000 in
theorem pm_cd_273 : lw_tbl[1390]? = some (.code yX10_drawn cX10_drawn 6 (some .int)) := rfl
set_option maxRecDepth 100000 in
theorem pm_cd_274 : lw_tbl[1416]? = some (.code yX10_gap cX10_gap 8 (some .int)) := rfl
set_option maxRecDepth 100000 in
theorem pm_cd_275 : lw_tbl[1423]? = some (.code yX10_unlike cX10_unlike 5 (some .int)) := rfl
set_option maxRecDepth 100000 in
theorem pm_cd_276 : lw_tbl[1430]? = some (.code yX10_family cX10_family 7 (some .int)) := rfl
set_option maxRecDepth 100000 in
theorem pm_cd_277 : lw_tbl[1437]? = some (.code yX10_turning cX10_turning 4 (some .int)) := rfl
set_option maxRecDepth 100000 in
theorem pm_cd_278 : lw_tbl[1444]? = some (.code yX10_leftOut cX10_leftOut 2 (some .int)) := rfl
set_option maxRecDepth 100000 in
theorem pm_cd_279 : lw_tbl[1455]? = some (.code yX10_cutting cX10_cutting 6 (some .int)) := rfl
set_option maxRecDepth 100000 in
theorem pm_cd_280 : lw_tbl[1463]? = some (.code yX10_mirrored cX10_mirrored 5 (some .boolean)) := rfl
set_option maxRecDepth 100000 in
theorem pm_cd_281 : lw_tbl[1092]? = some (.code yX10_needCard cX10_needCard 2 (none)) := rfl
set_option maxRecDepth 100000 in
theorem pm_cd_282 : lw_tbl[1107]? = some (.code yX10_needPick cX10_needPick 2 (none)) := rfl
set_option maxRecDepth 100000 in
theorem pm_cd_283 : lw_tbl[1119]? = some (.code yX10_needFigure cX10_needFigure 2 (none)) := rfl
set_option maxRecDepth 100000 in
theorem pm_cd_284 : lw_tbl[1207]? = some (.code yX10_needWhat cX10_needWhat 2 (none)) := rfl
set_option maxRecDepth 100000 in
theorem pm_cd_285 : lw_tbl[1468]? = some (.code yX11_init cX11_init 1 (none)) := rfl
set_option maxRecDepth 100000 in
theorem pm_cd_286 : lw_tbl[754]? = some (.codeWith yL_chapel cL_chapel 4 (some .int) [(0, 9, 12, 13)]) := rfl
set_option maxRecDepth 100000 in
theorem pm_cd_287 : lw_tbl[1040]? = some (.codeWith yL_count cL_count 4 (some .int) [(0, 9, 12, 18)]) := rfl
set_option maxRecDepth 100000 in
theorem pm_cd_288 : lw_tbl[1084]? = some (.codeWith yL_card cL_card 5 (some .int) [(0, 10, 13, 18)]) := rfl
set_option maxRecDepth 100000 in
theorem pm_cd_289 : lw_tbl[1099]? = some (.codeWith yL_lace cL_lace 4 (some .int) [(0, 9, 12, 18)]) := rfl
set_option maxRecDepth 100000 in
theorem pm_cd_290 : lw_tbl[1111]? = some (.codeWith yL_figure cL_figure 5 (some .int) [(0, 10, 13, 18)]) := rfl
set_option maxRecDepth 100000 in
theorem pm_cd_291 : lw_tbl[1124]? = some (.codeWith yL_snarl cL_snarl 5 (some .int) [(0, 10, 13, 18)]) := rfl
set_option maxRecDepth 100000 in
theorem pm_cd_292 : lw_tbl[1132]? = some (.codeWith yL_punch cL_punch 5 (some .int) [(0, 10, 13, 18)]) := rfl
set_option maxRecDepth 100000 in
theorem pm_cd_293 : lw_tbl[1139]? = some (.codeWith yL_turn cL_turn 4 (some .int) [(0, 9, 12, 18)]) := rfl
set_option maxRecDepth 100000 in
theorem pm_cd_294 : lw_tbl[1150]? = some (.codeWith yL_cut cL_cut 4 (some .int) [(0, 9, 12, 18)]) := rfl
set_option maxRecDepth 100000 in
theorem pm_cd_295 : lw_tbl[1157]? = some (.codeWith yL_then cL_then 5 (some .int) [(0, 10, 13, 18), (0, 10, 17, 13)]) := rfl
set_option maxRecDepth 100000 in
theorem pm_cd_296 : lw_tbl[1165]? = some (.codeWith yL_granted cL_granted 4 (some .int) [(0, 9, 12, 13)]) := rfl
set_option maxRecDepth 100000 in
theorem pm_cd_297 : lw_tbl[1176]? = some (.codeWith yL_worn cL_worn 4 (some .int) [(0, 9, 12, 18)]) := rfl
set_option maxRecDepth 100000 in
theorem pm_cd_298 : lw_tbl[1183]? = some (.codeWith yL_floats cL_floats 4 (some .int) [(0, 9, 12, 18)]) := rfl
set_option maxRecDepth 100000 in
theorem pm_cd_299 : lw_tbl[1200]? = some (.codeWith yL_stands cL_stands 5 (some .int) [(0, 10, 13, 18)]) := rfl
set_option maxRecDepth 100000 in
theorem pm_cd_300 : lw_tbl[1215]? = some (.codeWith yL_order cL_order 4 (some .int) [(0, 9, 12, 18)]) := rfl
set_option maxRecDepth 100000 in
theorem pm_cd_301 : lw_tbl[1240]? = some (.codeWith yL_punching cL_punching 6 (some .int) [(0, 12, 15, 18)]) := rfl
set_option maxRecDepth 100000 in
theorem pm_cd_302 : lw_tbl[1252]? = some (.codeWith yL_same cL_same 4 (some .int) [(0, 9, 12, 18)]) := rfl
set_option maxRecDepth 100000 in
theorem pm_cd_303 : lw_tbl[1271]? = some (.codeWith yL_see cL_see 7 (some .int) [(0, 14, 17, 18)]) := rfl
set_option maxRecDepth 100000 in
theorem pm_cd_304 : lw_tbl[1282]? = some (.codeWith yL_backwards cL_backwards 4 (some .int) [(0, 9, 12, 18)]) := rfl
set_option maxRecDepth 100000 in
theorem pm_cd_305 : lw_tbl[1297]? = some (.codeWith yL_punched cL_punched 5 (some .int) [(0, 10, 13, 18)]) := rfl
set_option maxRecDepth 100000 in
theorem pm_cd_306 : lw_tbl[1308]? = some (.codeWith yL_next cL_next 4 (some .int) [(0, 9, 12, 18)]) := rfl
set_option maxRecDepth 100000 in
theorem pm_cd_307 : lw_tbl[1324]? = some (.codeWith yL_toCut cL_toCut 7 (some .int) [(0, 14, 17, 18), (0, 14, 21, 13)]) := rfl
set_option maxRecDepth 100000 in
theorem pm_cd_308 : lw_tbl[1338]? = some (.codeWith yL_coats cL_coats 4 (some .int) [(0, 9, 12, 18)]) := rfl
set_option maxRecDepth 100000 in
theorem pm_cd_309 : lw_tbl[1366]? = some (.codeWith yL_game cL_game 6 (some .int) [(0, 12, 15, 18), (0, 12, 19, 13)]) := rfl
set_option maxRecDepth 100000 in
theorem pm_cd_310 : lw_tbl[1386]? = some (.codeWith yL_drawn cL_drawn 6 (some .int) [(0, 12, 15, 18), (0, 12, 19, 13)]) := rfl
set_option maxRecDepth 100000 in
theorem pm_cd_311 : lw_tbl[1412]? = some (.codeWith yL_gap cL_gap 5 (some .int) [(0, 10, 13, 18)]) := rfl
set_option maxRecDepth 100000 in
theorem pm_cd_312 : lw_tbl[1419]? = some (.codeWith yL_unlike cL_unlike 5 (some .int) [(0, 10, 13, 18)]) := rfl
set_option maxRecDepth 100000 in
theorem pm_cd_313 : lw_tbl[1426]? = some (.codeWith yL_family cL_family 4 (some .int) [(0, 9, 12, 18)]) := rfl
set_option maxRecDepth 100000 in
theorem pm_cd_314 : lw_tbl[1433]? = some (.codeWith yL_turning cL_turning 4 (some .int) [(0, 9, 12, 18)]) := rfl
set_option maxRecDepth 100000 in
theorem pm_cd_315 : lw_tbl[1440]? = some (.codeWith yL_leftOut cL_leftOut 4 (some .int) [(0, 9, 12, 18)]) := rfl
set_option maxRecDepth 100000 in
theorem pm_cd_316 : lw_tbl[1451]? = some (.codeWith yL_cutting cL_cutting 4 (some .int) [(0, 9, 12, 13)]) := rfl
set_option maxRecDepth 100000 in
theorem pm_cd_317 : lw_tbl[1459]? = some (.codeWith yL_mirrored cL_mirrored 4 (some .int) [(0, 16, 19, 18)]) := rfl
