/-! the code words of the methods, one by one -/
set_option maxRecDepth 20000 in
theorem am_kc0 : lw_tbl[233]? = some (Cond.code yX0_init cX0_init 1 none) := rfl
set_option maxRecDepth 20000 in
theorem am_kc1 : lw_tbl[383]? = some (Cond.code yX0_takeAway cX0_takeAway 1 none) := rfl
set_option maxRecDepth 20000 in
theorem am_kc2 : lw_tbl[415]? = some (Cond.code yX0_number cX0_number 1 (some .int)) := rfl
set_option maxRecDepth 20000 in
theorem am_kc3 : lw_tbl[826]? = some (Cond.code yX0_isOne cX0_isOne 2 (some .boolean)) := rfl
set_option maxRecDepth 20000 in
theorem am_kc4 : lw_tbl[818]? = some (Cond.code yX0_come cX0_come 2 (some .int)) := rfl
set_option maxRecDepth 20000 in
theorem am_kc5 : lw_tbl[1021]? = some (Cond.code yX0_forgetLast cX0_forgetLast 1 none) := rfl
set_option maxRecDepth 20000 in
theorem am_kc6 : lw_tbl[830]? = some (Cond.code yX0_standsAt cX0_standsAt 2 (some .int)) := rfl
set_option maxRecDepth 20000 in
theorem am_kc7 : lw_tbl[867]? = some (Cond.code yX0_stand cX0_stand 3 none) := rfl
set_option maxRecDepth 20000 in
theorem am_kc8 : lw_tbl[935]? = some (Cond.code yX0_givenTo cX0_givenTo 2 (some .int)) := rfl
set_option maxRecDepth 20000 in
theorem am_kc9 : lw_tbl[899]? = some (Cond.code yX0_startSending cX0_startSending 1 none) := rfl
set_option maxRecDepth 20000 in
theorem am_kc10 : lw_tbl[903]? = some (Cond.code yX0_ask cX0_ask 5 none) := rfl
set_option maxRecDepth 20000 in
theorem am_kc11 : lw_tbl[909]? = some (Cond.code yX0_assign cX0_assign 4 (some .int)) := rfl
set_option maxRecDepth 20000 in
theorem am_kc12 : lw_tbl[913]? = some (Cond.code yX0_leastBehind cX0_leastBehind 5 (some .int)) := rfl
set_option maxRecDepth 20000 in
theorem am_kc13 : lw_tbl[918]? = some (Cond.code yX0_sumWith cX0_sumWith 6 (some .int)) := rfl
set_option maxRecDepth 20000 in
theorem am_kc14 : lw_tbl[923]? = some (Cond.code yX0_firstLeast cX0_firstLeast 4 (some .int)) := rfl
set_option maxRecDepth 20000 in
theorem am_kc15 : lw_tbl[927]? = some (Cond.code yX0_give cX0_give 3 none) := rfl
set_option maxRecDepth 20000 in
theorem am_kc16 : lw_tbl[531]? = some (Cond.code yX1_init cX1_init 6 none) := rfl
set_option maxRecDepth 20000 in
theorem am_kc17 : lw_tbl[596]? = some (Cond.code yX1_isSighting cX1_isSighting 1 (some .boolean)) := rfl
set_option maxRecDepth 20000 in
theorem am_kc18 : lw_tbl[629]? = some (Cond.code yX1_clashesWith cX1_clashesWith 2 (some .boolean)) := rfl
set_option maxRecDepth 20000 in
theorem am_kc19 : lw_tbl[169]? = some (Cond.code yX2_init cX2_init 3 none) := rfl
set_option maxRecDepth 20000 in
theorem am_kc20 : lw_tbl[379]? = some (Cond.code yX2_takeAway cX2_takeAway 1 none) := rfl
set_option maxRecDepth 20000 in
theorem am_kc21 : lw_tbl[411]? = some (Cond.code yX2_ever cX2_ever 1 (some .int)) := rfl
set_option maxRecDepth 20000 in
theorem am_kc22 : lw_tbl[637]? = some (Cond.code yX2_isOne cX2_isOne 2 (some .boolean)) := rfl
set_option maxRecDepth 20000 in
theorem am_kc23 : lw_tbl[633]? = some (Cond.code yX2_stateOf cX2_stateOf 2 (some .int)) := rfl
set_option maxRecDepth 20000 in
theorem am_kc24 : lw_tbl[735]? = some (Cond.code yX2_membersOf cX2_membersOf 2 (some .int)) := rfl
set_option maxRecDepth 20000 in
theorem am_kc25 : lw_tbl[750]? = some (Cond.code yX2_againOf cX2_againOf 2 (some .int)) := rfl
set_option maxRecDepth 20000 in
theorem am_kc26 : lw_tbl[641]? = some (Cond.code yX2_patchOf cX2_patchOf 2 (some (.object "SmokeWatch$SquareSet"))) := rfl
set_option maxRecDepth 20000 in
theorem am_kc27 : lw_tbl[895]? = some (Cond.code yX2_burning cX2_burning 3 (some .int)) := rfl
set_option maxRecDepth 20000 in
theorem am_kc28 : lw_tbl[698]? = some (Cond.code yX2_kindle cX2_kindle 3 (some .int)) := rfl
set_option maxRecDepth 20000 in
theorem am_kc29 : lw_tbl[702]? = some (Cond.code yX2_latestOutMeeting cX2_latestOutMeeting 3 (some .int)) := rfl
set_option maxRecDepth 20000 in
theorem am_kc30 : lw_tbl[1017]? = some (Cond.code yX2_forgetLast cX2_forgetLast 1 none) := rfl
set_option maxRecDepth 20000 in
theorem am_kc31 : lw_tbl[726]? = some (Cond.code yX2_putOut cX2_putOut 3 none) := rfl
set_option maxRecDepth 20000 in
theorem am_kc32 : lw_tbl[679]? = some (Cond.code yX2_renew cX2_renew 5 none) := rfl
set_option maxRecDepth 20000 in
theorem am_kc33 : lw_tbl[614]? = some (Cond.code yX2_fitting cX2_fitting 6 (some .int)) := rfl
set_option maxRecDepth 20000 in
theorem am_kc34 : lw_tbl[624]? = some (Cond.code yX2_clashing cX2_clashing 7 (some .int)) := rfl
set_option maxRecDepth 20000 in
theorem am_kc35 : lw_tbl[740]? = some (Cond.code yX2_middleOf cX2_middleOf 7 (some .int)) := rfl
set_option maxRecDepth 20000 in
theorem am_kc36 : lw_tbl[745]? = some (Cond.code yX2_sumOfWays cX2_sumOfWays 4 (some .int)) := rfl
set_option maxRecDepth 20000 in
theorem am_kc37 : lw_tbl[288]? = some (Cond.code yX3_init cX3_init 1 none) := rfl
set_option maxRecDepth 20000 in
theorem am_kc38 : lw_tbl[762]? = some (Cond.code yX3_start cX3_start 1 none) := rfl
set_option maxRecDepth 20000 in
theorem am_kc39 : lw_tbl[766]? = some (Cond.code yX3_take cX3_take 2 (some .boolean)) := rfl
set_option maxRecDepth 20000 in
theorem am_kc40 : lw_tbl[771]? = some (Cond.code yX3_least cX3_least 3 (some .int)) := rfl
set_option maxRecDepth 20000 in
theorem am_kc41 : lw_tbl[787]? = some (Cond.code yX3_fewParts cX3_fewParts 6 (some .int)) := rfl
set_option maxRecDepth 20000 in
theorem am_kc42 : lw_tbl[776]? = some (Cond.code yX3_canBeOne cX3_canBeOne 4 (some .boolean)) := rfl
set_option maxRecDepth 20000 in
theorem am_kc43 : lw_tbl[781]? = some (Cond.code yX3_clashesAhead cX3_clashesAhead 5 (some .boolean)) := rfl
set_option maxRecDepth 20000 in
theorem am_kc44 : lw_tbl[262]? = some (Cond.code yX4_init cX4_init 1 none) := rfl
set_option maxRecDepth 20000 in
theorem am_kc45 : lw_tbl[387]? = some (Cond.code yX4_takeAway cX4_takeAway 1 none) := rfl
set_option maxRecDepth 20000 in
theorem am_kc46 : lw_tbl[1029]? = some (Cond.code yX4_size cX4_size 1 (some .int)) := rfl
set_option maxRecDepth 20000 in
theorem am_kc47 : lw_tbl[567]? = some (Cond.code yX4_keep cX4_keep 5 none) := rfl
set_option maxRecDepth 20000 in
theorem am_kc48 : lw_tbl[997]? = some (Cond.code yX4_takeLast cX4_takeLast 1 (some .boolean)) := rfl
set_option maxRecDepth 20000 in
theorem am_kc49 : lw_tbl[1009]? = some (Cond.code yX4_act cX4_act 1 (some .int)) := rfl
set_option maxRecDepth 20000 in
theorem am_kc50 : lw_tbl[1001]? = some (Cond.code yX4_which cX4_which 1 (some .int)) := rfl
set_option maxRecDepth 20000 in
theorem am_kc51 : lw_tbl[1005]? = some (Cond.code yX4_old cX4_old 1 (some .int)) := rfl
set_option maxRecDepth 20000 in
theorem am_kc52 : lw_tbl[1013]? = some (Cond.code yX4_entry cX4_entry 1 (some (.object "SmokeWatch$Entry"))) := rfl
set_option maxRecDepth 20000 in
theorem am_kc53 : lw_tbl[145]? = some (Cond.code yX5_init cX5_init 1 none) := rfl
set_option maxRecDepth 20000 in
theorem am_kc54 : lw_tbl[375]? = some (Cond.code yX5_takeAway cX5_takeAway 2 none) := rfl
set_option maxRecDepth 20000 in
theorem am_kc55 : lw_tbl[407]? = some (Cond.code yX5_used cX5_used 1 (some .int)) := rfl
set_option maxRecDepth 20000 in
theorem am_kc56 : lw_tbl[482]? = some (Cond.code yX5_firstFree cX5_firstFree 2 (some .int)) := rfl
set_option maxRecDepth 20000 in
theorem am_kc57 : lw_tbl[584]? = some (Cond.code yX5_entryAt cX5_entryAt 2 (some (.object "SmokeWatch$Entry"))) := rfl
set_option maxRecDepth 20000 in
theorem am_kc58 : lw_tbl[618]? = some (Cond.code yX5_squaresOf cX5_squaresOf 3 (some (.object "SmokeWatch$SquareSet"))) := rfl
set_option maxRecDepth 20000 in
theorem am_kc59 : lw_tbl[563]? = some (Cond.code yX5_put cX5_put 3 none) := rfl
set_option maxRecDepth 20000 in
theorem am_kc60 : lw_tbl[588]? = some (Cond.code yX5_fireOf cX5_fireOf 2 (some .int)) := rfl
set_option maxRecDepth 20000 in
theorem am_kc61 : lw_tbl[675]? = some (Cond.code yX5_putFire cX5_putFire 3 none) := rfl
set_option maxRecDepth 20000 in
theorem am_kc62 : lw_tbl[983]? = some (Cond.code yX5_saidOf cX5_saidOf 2 (some .int)) := rfl
set_option maxRecDepth 20000 in
theorem am_kc63 : lw_tbl[975]? = some (Cond.code yX5_say cX5_say 3 none) := rfl
set_option maxRecDepth 20000 in
theorem am_kc64 : lw_tbl[82]? = some (Cond.code yX6_init cX6_init 1 none) := rfl
set_option maxRecDepth 20000 in
theorem am_kc65 : lw_tbl[500]? = some (Cond.code yX6_empty cX6_empty 1 none) := rfl
set_option maxRecDepth 20000 in
theorem am_kc66 : lw_tbl[683]? = some (Cond.code yX6_fill cX6_fill 1 none) := rfl
set_option maxRecDepth 20000 in
theorem am_kc67 : lw_tbl[799]? = some (Cond.code yX6_copyFrom cX6_copyFrom 2 none) := rfl
set_option maxRecDepth 20000 in
theorem am_kc68 : lw_tbl[350]? = some (Cond.code yX6_put cX6_put 2 none) := rfl
set_option maxRecDepth 20000 in
theorem am_kc69 : lw_tbl[358]? = some (Cond.code yX6_drop cX6_drop 2 none) := rfl
set_option maxRecDepth 20000 in
theorem am_kc70 : lw_tbl[403]? = some (Cond.code yX6_has cX6_has 2 (some .boolean)) := rfl
set_option maxRecDepth 20000 in
theorem am_kc71 : lw_tbl[526]? = some (Cond.code yX6_keepOnly cX6_keepOnly 3 none) := rfl
set_option maxRecDepth 20000 in
theorem am_kc72 : lw_tbl[949]? = some (Cond.code yX6_takeOut cX6_takeOut 3 none) := rfl
set_option maxRecDepth 20000 in
theorem am_kc73 : lw_tbl[645]? = some (Cond.code yX6_meets cX6_meets 3 (some .boolean)) := rfl
set_option maxRecDepth 20000 in
theorem am_kc74 : lw_tbl[693]? = some (Cond.code yX6_isEmpty cX6_isEmpty 1 (some .boolean)) := rfl
set_option maxRecDepth 20000 in
theorem am_kc75 : lw_tbl[604]? = some (Cond.code yX6_size cX6_size 3 (some .int)) := rfl
set_option maxRecDepth 20000 in
theorem am_kc76 : lw_tbl[660]? = some (Cond.code yX6_atRank cX6_atRank 5 (some .int)) := rfl
set_option maxRecDepth 20000 in
theorem am_kc77 : lw_tbl[663]? = some (Cond.code yX6_bitAtRank cX6_bitAtRank 5 (some .int)) := rfl
set_option maxRecDepth 20000 in
theorem am_kc78 : lw_tbl[104]? = some (Cond.code yX7_init cX7_init 3 none) := rfl
set_option maxRecDepth 20000 in
theorem am_kc79 : lw_tbl[795]? = some (Cond.code yX7_number cX7_number 1 (some .int)) := rfl
set_option maxRecDepth 20000 in
theorem am_kc80 : lw_tbl[433]? = some (Cond.code yX7_isOne cX7_isOne 2 (some .boolean)) := rfl
set_option maxRecDepth 20000 in
theorem am_kc81 : lw_tbl[437]? = some (Cond.code yX7_base cX7_base 2 (some .int)) := rfl
set_option maxRecDepth 20000 in
theorem am_kc82 : lw_tbl[442]? = some (Cond.code yX7_above cX7_above 2 (some .int)) := rfl
set_option maxRecDepth 20000 in
theorem am_kc83 : lw_tbl[363]? = some (Cond.code yX7_takeAway cX7_takeAway 1 none) := rfl
set_option maxRecDepth 20000 in
theorem am_kc84 : lw_tbl[367]? = some (Cond.code yX7_forget cX7_forget 2 none) := rfl
set_option maxRecDepth 20000 in
theorem am_kc85 : lw_tbl[371]? = some (Cond.code yX7_forgetUnseen cX7_forgetUnseen 1 none) := rfl
set_option maxRecDepth 20000 in
theorem am_kc86 : lw_tbl[425]? = some (Cond.code yX7_build cX7_build 3 (some .int)) := rfl
set_option maxRecDepth 20000 in
theorem am_kc87 : lw_tbl[510]? = some (Cond.code yX7_seenBy cX7_seenBy 2 (some (.object "SmokeWatch$SquareSet"))) := rfl
set_option maxRecDepth 20000 in
theorem am_kc88 : lw_tbl[514]? = some (Cond.code yX7_look cX7_look 5 none) := rfl
set_option maxRecDepth 20000 in
theorem am_kc89 : lw_tbl[943]? = some (Cond.code yX7_unseen cX7_unseen 2 (some (.object "SmokeWatch$SquareSet"))) := rfl
set_option maxRecDepth 20000 in
theorem am_kc90 : lw_tbl[961]? = some (Cond.code yX7_bestNew cX7_bestNew 5 (some .int)) := rfl
set_option maxRecDepth 20000 in
theorem am_kc91 : lw_tbl[967]? = some (Cond.code yX7_countNew cX7_countNew 7 (some .int)) := rfl
set_option maxRecDepth 20000 in
theorem am_kc92 : lw_tbl[205]? = some (Cond.code yX8_init cX8_init 2 none) := rfl
set_option maxRecDepth 20000 in
theorem am_kc93 : lw_tbl[391]? = some (Cond.code yX8_forget cX8_forget 1 none) := rfl
set_option maxRecDepth 20000 in
theorem am_kc94 : lw_tbl[835]? = some (Cond.code yX8_leadTo cX8_leadTo 5 none) := rfl
set_option maxRecDepth 20000 in
theorem am_kc95 : lw_tbl[840]? = some (Cond.code yX8_push cX8_push 2 none) := rfl
set_option maxRecDepth 20000 in
theorem am_kc96 : lw_tbl[845]? = some (Cond.code yX8_relax cX8_relax 6 none) := rfl
set_option maxRecDepth 20000 in
theorem am_kc97 : lw_tbl[862]? = some (Cond.code yX8_improve cX8_improve 3 none) := rfl
set_option maxRecDepth 20000 in
theorem am_kc98 : lw_tbl[854]? = some (Cond.code yX8_minutesFrom cX8_minutesFrom 2 (some .int)) := rfl
set_option maxRecDepth 20000 in
theorem am_kc99 : lw_tbl[883]? = some (Cond.code yX8_stepFrom cX8_stepFrom 5 (some .int)) := rfl
set_option maxRecDepth 20000 in
theorem am_kc100 : lw_tbl[887]? = some (Cond.code yX8_stepOn cX8_stepOn 4 (some .int)) := rfl
set_option maxRecDepth 20000 in
theorem am_kc101 : lw_tbl[76]? = some (Cond.code yX9_init cX9_init 1 none) := rfl
set_option maxRecDepth 20000 in
theorem am_kc102 : lw_tbl[346]? = some (Cond.code yX9_layRow cX9_layRow 7 none) := rfl
set_option maxRecDepth 20000 in
theorem am_kc103 : lw_tbl[354]? = some (Cond.code yX9_shape cX9_shape 4 none) := rfl
set_option maxRecDepth 20000 in
theorem am_kc104 : lw_tbl[519]? = some (Cond.code yX9_there cX9_there 1 (some (.object "SmokeWatch$SquareSet"))) := rfl
set_option maxRecDepth 20000 in
theorem am_kc105 : lw_tbl[399]? = some (Cond.code yX9_numberOf cX9_numberOf 4 (some .int)) := rfl
set_option maxRecDepth 20000 in
theorem am_kc106 : lw_tbl[456]? = some (Cond.code yX9_heightOf cX9_heightOf 2 (some .int)) := rfl
set_option maxRecDepth 20000 in
theorem am_kc107 : lw_tbl[858]? = some (Cond.code yX9_stepCost cX9_stepCost 5 (some .int)) := rfl
set_option maxRecDepth 20000 in
theorem am_kc108 : lw_tbl[849]? = some (Cond.code yX9_beside cX9_beside 5 (some .int)) := rfl
set_option maxRecDepth 20000 in
theorem am_kc109 : lw_tbl[446]? = some (Cond.code yX9_firstHider cX9_firstHider 22 (some .int)) := rfl
set_option maxRecDepth 20000 in
theorem am_kc110 : lw_tbl[496]? = some (Cond.code yX9_fillCone cX9_fillCone 11 none) := rfl
set_option maxRecDepth 20000 in
theorem am_kc111 : lw_tbl[809]? = some (Cond.code yX9_countInCone cX9_countInCone 8 (some .int)) := rfl
set_option maxRecDepth 20000 in
theorem am_kc112 : lw_tbl[506]? = some (Cond.code yX9_isInCone cX9_isInCone 9 (some .boolean)) := rfl
set_option maxRecDepth 20000 in
theorem am_kc113 : lw_tbl[68]? = some (Cond.code yX10_init cX10_init 1 none) := rfl
set_option maxRecDepth 20000 in
theorem am_kc114 : lw_tbl[339]? = some (Cond.code yX10_row cX10_row 5 (some .boolean)) := rfl
set_option maxRecDepth 20000 in
theorem am_kc115 : lw_tbl[395]? = some (Cond.code yX10_square cX10_square 6 (some .boolean)) := rfl
set_option maxRecDepth 20000 in
theorem am_kc116 : lw_tbl[421]? = some (Cond.code yX10_tower cX10_tower 5 (some .int)) := rfl
set_option maxRecDepth 20000 in
theorem am_kc117 : lw_tbl[429]? = some (Cond.code yX10_see cX10_see 5 (some .int)) := rfl
set_option maxRecDepth 20000 in
theorem am_kc118 : lw_tbl[463]? = some (Cond.code yX10_hidden cX10_hidden 5 (some .int)) := rfl
set_option maxRecDepth 20000 in
theorem am_kc119 : lw_tbl[467]? = some (Cond.code yX10_sight cX10_sight 12 (some .int)) := rfl
set_option maxRecDepth 20000 in
theorem am_kc120 : lw_tbl[572]? = some (Cond.code yX10_report cX10_report 10 (some .int)) := rfl
set_option maxRecDepth 20000 in
theorem am_kc121 : lw_tbl[576]? = some (Cond.code yX10_remark cX10_remark 3 (some .int)) := rfl
set_option maxRecDepth 20000 in
theorem am_kc122 : lw_tbl[580]? = some (Cond.code yX10_clear cX10_clear 3 (some .boolean)) := rfl
set_option maxRecDepth 20000 in
theorem am_kc123 : lw_tbl[592]? = some (Cond.code yX10_log cX10_log 4 (some .int)) := rfl
set_option maxRecDepth 20000 in
theorem am_kc124 : lw_tbl[655]? = some (Cond.code yX10_squares cX10_squares 4 (some .int)) := rfl
set_option maxRecDepth 20000 in
theorem am_kc125 : lw_tbl[667]? = some (Cond.code yX10_join cX10_join 3 (some .boolean)) := rfl
set_option maxRecDepth 20000 in
theorem am_kc126 : lw_tbl[689]? = some (Cond.code yX10_begin cX10_begin 4 (some .int)) := rfl
set_option maxRecDepth 20000 in
theorem am_kc127 : lw_tbl[706]? = some (Cond.code yX10_apart cX10_apart 3 (some .boolean)) := rfl
set_option maxRecDepth 20000 in
theorem am_kc128 : lw_tbl[711]? = some (Cond.code yX10_office cX10_office 4 (some .int)) := rfl
set_option maxRecDepth 20000 in
theorem am_kc129 : lw_tbl[722]? = some (Cond.code yX10_out cX10_out 2 (some .boolean)) := rfl
set_option maxRecDepth 20000 in
theorem am_kc130 : lw_tbl[730]? = some (Cond.code yX10_fire cX10_fire 3 (some .int)) := rfl
set_option maxRecDepth 20000 in
theorem am_kc131 : lw_tbl[754]? = some (Cond.code yX10_patch cX10_patch 3 (some .int)) := rfl
set_option maxRecDepth 20000 in
theorem am_kc132 : lw_tbl[758]? = some (Cond.code yX10_fewest cX10_fewest 5 (some .int)) := rfl
set_option maxRecDepth 20000 in
theorem am_kc133 : lw_tbl[791]? = some (Cond.code yX10_next cX10_next 10 (some .int)) := rfl
set_option maxRecDepth 20000 in
theorem am_kc134 : lw_tbl[814]? = some (Cond.code yX10_crew cX10_crew 5 (some .int)) := rfl
set_option maxRecDepth 20000 in
theorem am_kc135 : lw_tbl[822]? = some (Cond.code yX10_move cX10_move 6 (some .boolean)) := rfl
set_option maxRecDepth 20000 in
theorem am_kc136 : lw_tbl[871]? = some (Cond.code yX10_place cX10_place 2 (some .int)) := rfl
set_option maxRecDepth 20000 in
theorem am_kc137 : lw_tbl[875]? = some (Cond.code yX10_minutes cX10_minutes 5 (some .int)) := rfl
set_option maxRecDepth 20000 in
theorem am_kc138 : lw_tbl[879]? = some (Cond.code yX10_way cX10_way 6 (some .int)) := rfl
set_option maxRecDepth 20000 in
theorem am_kc139 : lw_tbl[891]? = some (Cond.code yX10_send cX10_send 3 (some .int)) := rfl
set_option maxRecDepth 20000 in
theorem am_kc140 : lw_tbl[931]? = some (Cond.code yX10_sent cX10_sent 2 (some .int)) := rfl
set_option maxRecDepth 20000 in
theorem am_kc141 : lw_tbl[939]? = some (Cond.code yX10_blinds cX10_blinds 1 (some .int)) := rfl
set_option maxRecDepth 20000 in
theorem am_kc142 : lw_tbl[953]? = some (Cond.code yX10_blind cX10_blind 2 (some .int)) := rfl
set_option maxRecDepth 20000 in
theorem am_kc143 : lw_tbl[957]? = some (Cond.code yX10_best cX10_best 1 (some .int)) := rfl
set_option maxRecDepth 20000 in
theorem am_kc144 : lw_tbl[971]? = some (Cond.code yX10_claim cX10_claim 3 (some .boolean)) := rfl
set_option maxRecDepth 20000 in
theorem am_kc145 : lw_tbl[979]? = some (Cond.code yX10_check cX10_check 2 (some .int)) := rfl
set_option maxRecDepth 20000 in
theorem am_kc146 : lw_tbl[993]? = some (Cond.code yX10_undo cX10_undo 3 (some .boolean)) := rfl
set_option maxRecDepth 20000 in
theorem am_kc147 : lw_tbl[1025]? = some (Cond.code yX10_count cX10_count 2 (some .int)) := rfl
set_option maxRecDepth 20000 in
theorem am_kc148 : lw_tbl[342]? = some (Cond.code yX10_isTold cX10_isTold 2 (some .boolean)) := rfl
set_option maxRecDepth 20000 in
theorem am_kc149 : lw_tbl[470]? = some (Cond.code yX10_isAimed cX10_isAimed 4 (some .boolean)) := rfl
set_option maxRecDepth 20000 in
theorem am_kc150 : lw_tbl[473]? = some (Cond.code yX10_hasReachTold cX10_hasReachTold 3 (some .boolean)) := rfl
set_option maxRecDepth 20000 in
theorem am_kc151 : lw_tbl[476]? = some (Cond.code yX10_isHaze cX10_isHaze 1 (some .boolean)) := rfl
set_option maxRecDepth 20000 in
theorem am_kc152 : lw_tbl[485]? = some (Cond.code yX10_reachLeft cX10_reachLeft 4 (some .int)) := rfl
set_option maxRecDepth 20000 in
theorem am_kc153 : lw_tbl[488]? = some (Cond.code yX10_floatOf cX10_floatOf 5 (some .float)) := rfl
set_option maxRecDepth 20000 in
theorem am_kc154 : lw_tbl[559]? = some (Cond.code yX10_enter cX10_enter 3 none) := rfl
set_option maxRecDepth 20000 in
theorem am_kc155 : lw_tbl[600]? = some (Cond.code yX10_tellOfSighting cX10_tellOfSighting 4 (some .int)) := rfl
set_option maxRecDepth 20000 in
theorem am_kc156 : lw_tbl[671]? = some (Cond.code yX10_unite cX10_unite 3 none) := rfl
set_option maxRecDepth 20000 in
theorem am_kc157 : lw_tbl[715]? = some (Cond.code yX10_firstOfOneFit cX10_firstOfOneFit 2 (some .int)) := rfl
set_option maxRecDepth 20000 in
theorem am_kc158 : lw_tbl[718]? = some (Cond.code yX10_lowestBit cX10_lowestBit 2 (some .int)) := rfl
set_option maxRecDepth 20000 in
theorem am_kc159 : lw_tbl[987]? = some (Cond.code yX10_isWronglySaid cX10_isWronglySaid 5 (some .boolean)) := rfl
set_option maxRecDepth 20000 in
theorem am_kc160 : lw_tbl[1035]? = some (Cond.code yX11_init cX11_init 1 none) := rfl
set_option maxRecDepth 20000 in
theorem am_kc161 : lw_tbl[1135]? = some (Cond.code yX11_isIn cX11_isIn 3 (some .boolean)) := rfl
set_option maxRecDepth 20000 in
theorem am_kc162 : lw_tbl[1143]? = some (Cond.code yX11_isThere cX11_isThere 3 (some .boolean)) := rfl
set_option maxRecDepth 20000 in
theorem am_kc163 : lw_tbl[1175]? = some (Cond.code yX11_isSquare cX11_isSquare 2 (some .boolean)) := rfl
set_option maxRecDepth 20000 in
theorem am_kc164 : lw_tbl[1040]? = some (Cond.code yX11_away cX11_away 2 none) := rfl
set_option maxRecDepth 20000 in
theorem am_kc165 : lw_tbl[1132]? = some (Cond.code yX11_row cX11_row 6 (some .boolean)) := rfl
set_option maxRecDepth 20000 in
theorem am_kc166 : lw_tbl[1139]? = some (Cond.code yX11_square cX11_square 5 (some .boolean)) := rfl
set_option maxRecDepth 20000 in
theorem am_kc167 : lw_tbl[1151]? = some (Cond.code yX11_tower cX11_tower 4 (some .int)) := rfl
set_option maxRecDepth 20000 in
theorem am_kc168 : lw_tbl[1171]? = some (Cond.code yX11_crosses cX11_crosses 8 (some .boolean)) := rfl
set_option maxRecDepth 20000 in
theorem am_kc169 : lw_tbl[1166]? = some (Cond.code yX11_isOn cX11_isOn 6 (some .boolean)) := rfl
set_option maxRecDepth 20000 in
theorem am_kc170 : lw_tbl[1159]? = some (Cond.code yX11_barred cX11_barred 16 (some .int)) := rfl
set_option maxRecDepth 20000 in
theorem am_kc171 : lw_tbl[1155]? = some (Cond.code yX11_see cX11_see 4 (some .int)) := rfl
set_option maxRecDepth 20000 in
theorem am_kc172 : lw_tbl[1179]? = some (Cond.code yX11_hidden cX11_hidden 4 (some .int)) := rfl
set_option maxRecDepth 20000 in
theorem am_kc173 : lw_tbl[1232]? = some (Cond.code yX11_has cX11_has 3 (some .boolean)) := rfl
set_option maxRecDepth 20000 in
theorem am_kc174 : lw_tbl[1229]? = some (Cond.code yX11_sizeOf cX11_sizeOf 4 (some .int)) := rfl
set_option maxRecDepth 20000 in
theorem am_kc175 : lw_tbl[1263]? = some (Cond.code yX11_kth cX11_kth 5 (some .int)) := rfl
set_option maxRecDepth 20000 in
theorem am_kc176 : lw_tbl[1206]? = some (Cond.code yX11_act cX11_act 2 none) := rfl
set_option maxRecDepth 20000 in
theorem am_kc177 : lw_tbl[1183]? = some (Cond.code yX11_undo cX11_undo 2 (some .boolean)) := rfl
set_option maxRecDepth 20000 in
theorem am_kc178 : lw_tbl[1147]? = some (Cond.code yX11_places cX11_places 3 (some .int)) := rfl
set_option maxRecDepth 20000 in
theorem am_kc179 : lw_tbl[1202]? = some (Cond.code yX11_free cX11_free 2 (some .int)) := rfl
set_option maxRecDepth 20000 in
theorem am_kc180 : lw_tbl[1240]? = some (Cond.code yX11_isSighting cX11_isSighting 2 (some .boolean)) := rfl
set_option maxRecDepth 20000 in
theorem am_kc181 : lw_tbl[1210]? = some (Cond.code yX11_look cX11_look 15 none) := rfl
set_option maxRecDepth 20000 in
theorem am_kc182 : lw_tbl[1190]? = some (Cond.code yX11_isLooked cX11_isLooked 4 (some .boolean)) := rfl
set_option maxRecDepth 20000 in
theorem am_kc183 : lw_tbl[1198]? = some (Cond.code yX11_made cX11_made 5 (some .int)) := rfl
set_option maxRecDepth 20000 in
theorem am_kc184 : lw_tbl[1187]? = some (Cond.code yX11_sight cX11_sight 12 (some .int)) := rfl
set_option maxRecDepth 20000 in
theorem am_kc185 : lw_tbl[1214]? = some (Cond.code yX11_report cX11_report 8 (some .int)) := rfl
set_option maxRecDepth 20000 in
theorem am_kc186 : lw_tbl[1218]? = some (Cond.code yX11_remark cX11_remark 2 (some .int)) := rfl
set_option maxRecDepth 20000 in
theorem am_kc187 : lw_tbl[1222]? = some (Cond.code yX11_clear cX11_clear 2 (some .boolean)) := rfl
set_option maxRecDepth 20000 in
theorem am_kc188 : lw_tbl[1226]? = some (Cond.code yX11_log cX11_log 6 (some .int)) := rfl
set_option maxRecDepth 20000 in
theorem am_kc189 : lw_tbl[1260]? = some (Cond.code yX11_squares cX11_squares 3 (some .int)) := rfl
set_option maxRecDepth 20000 in
theorem am_kc190 : lw_tbl[1252]? = some (Cond.code yX11_patchOf cX11_patchOf 5 (some .int)) := rfl
set_option maxRecDepth 20000 in
theorem am_kc191 : lw_tbl[1256]? = some (Cond.code yX11_meets cX11_meets 2 (some .boolean)) := rfl
set_option maxRecDepth 20000 in
theorem am_kc192 : lw_tbl[1248]? = some (Cond.code yX11_isAlike cX11_isAlike 3 (some .boolean)) := rfl
set_option maxRecDepth 20000 in
theorem am_kc193 : lw_tbl[1244]? = some (Cond.code yX11_isFire cX11_isFire 2 (some .boolean)) := rfl
set_option maxRecDepth 20000 in
theorem am_kc194 : lw_tbl[1236]? = some (Cond.code yX11_fits cX11_fits 4 (some .boolean)) := rfl
set_option maxRecDepth 20000 in
theorem am_kc195 : lw_tbl[1267]? = some (Cond.code yX11_join cX11_join 3 (some .boolean)) := rfl
set_option maxRecDepth 20000 in
theorem am_kc196 : lw_tbl[1271]? = some (Cond.code yX11_begin cX11_begin 5 (some .int)) := rfl
set_option maxRecDepth 20000 in
theorem am_kc197 : lw_tbl[1275]? = some (Cond.code yX11_apart cX11_apart 3 (some .boolean)) := rfl
set_option maxRecDepth 20000 in
theorem am_kc198 : lw_tbl[1279]? = some (Cond.code yX11_office cX11_office 6 (some .int)) := rfl
set_option maxRecDepth 20000 in
theorem am_kc199 : lw_tbl[1284]? = some (Cond.code yX11_out cX11_out 2 (some .boolean)) := rfl
set_option maxRecDepth 20000 in
theorem am_kc200 : lw_tbl[1292]? = some (Cond.code yX11_middle cX11_middle 6 (some .int)) := rfl
set_option maxRecDepth 20000 in
theorem am_kc201 : lw_tbl[1288]? = some (Cond.code yX11_fire cX11_fire 4 (some .int)) := rfl
set_option maxRecDepth 20000 in
theorem am_kc202 : lw_tbl[1296]? = some (Cond.code yX11_patch cX11_patch 4 (some .int)) := rfl
set_option maxRecDepth 20000 in
theorem am_kc203 : lw_tbl[1300]? = some (Cond.code yX11_fewest cX11_fewest 10 (some .int)) := rfl
set_option maxRecDepth 20000 in
theorem am_kc204 : lw_tbl[1304]? = some (Cond.code yX11_isOne cX11_isOne 2 (some .boolean)) := rfl
set_option maxRecDepth 20000 in
theorem am_kc205 : lw_tbl[1311]? = some (Cond.code yX11_downOf cX11_downOf 1 (some .int)) := rfl
set_option maxRecDepth 20000 in
theorem am_kc206 : lw_tbl[1314]? = some (Cond.code yX11_rightOf cX11_rightOf 1 (some .int)) := rfl
set_option maxRecDepth 20000 in
theorem am_kc207 : lw_tbl[1308]? = some (Cond.code yX11_next cX11_next 10 (some .int)) := rfl
set_option maxRecDepth 20000 in
theorem am_kc208 : lw_tbl[1334]? = some (Cond.code yX11_beside cX11_beside 5 (some .int)) := rfl
set_option maxRecDepth 20000 in
theorem am_kc209 : lw_tbl[1338]? = some (Cond.code yX11_step cX11_step 3 (some .int)) := rfl
set_option maxRecDepth 20000 in
theorem am_kc210 : lw_tbl[1330]? = some (Cond.code yX11_reach cX11_reach 5 none) := rfl
set_option maxRecDepth 20000 in
theorem am_kc211 : lw_tbl[1326]? = some (Cond.code yX11_isCrew cX11_isCrew 2 (some .boolean)) := rfl
set_option maxRecDepth 20000 in
theorem am_kc212 : lw_tbl[1318]? = some (Cond.code yX11_crew cX11_crew 4 (some .int)) := rfl
set_option maxRecDepth 20000 in
theorem am_kc213 : lw_tbl[1322]? = some (Cond.code yX11_minutes cX11_minutes 4 (some .int)) := rfl
set_option maxRecDepth 20000 in
theorem am_kc214 : lw_tbl[1342]? = some (Cond.code yX11_move cX11_move 4 (some .boolean)) := rfl
set_option maxRecDepth 20000 in
theorem am_kc215 : lw_tbl[1347]? = some (Cond.code yX11_place cX11_place 2 (some .int)) := rfl
set_option maxRecDepth 20000 in
theorem am_kc216 : lw_tbl[1351]? = some (Cond.code yX11_way cX11_way 11 (some .int)) := rfl
set_option maxRecDepth 20000 in
theorem am_kc217 : lw_tbl[1355]? = some (Cond.code yX11_send cX11_send 5 (some .int)) := rfl
set_option maxRecDepth 20000 in
theorem am_kc218 : lw_tbl[1359]? = some (Cond.code yX11_give cX11_give 7 (some .int)) := rfl
set_option maxRecDepth 20000 in
theorem am_kc219 : lw_tbl[1363]? = some (Cond.code yX11_sent cX11_sent 2 (some .int)) := rfl
set_option maxRecDepth 20000 in
theorem am_kc220 : lw_tbl[1371]? = some (Cond.code yX11_findBlinds cX11_findBlinds 4 none) := rfl
set_option maxRecDepth 20000 in
theorem am_kc221 : lw_tbl[1367]? = some (Cond.code yX11_blinds cX11_blinds 1 (some .int)) := rfl
set_option maxRecDepth 20000 in
theorem am_kc222 : lw_tbl[1375]? = some (Cond.code yX11_blind cX11_blind 2 (some .int)) := rfl
set_option maxRecDepth 20000 in
theorem am_kc223 : lw_tbl[1379]? = some (Cond.code yX11_best cX11_best 6 (some .int)) := rfl
set_option maxRecDepth 20000 in
theorem am_kc224 : lw_tbl[1384]? = some (Cond.code yX11_claim cX11_claim 3 (some .boolean)) := rfl
set_option maxRecDepth 20000 in
theorem am_kc225 : lw_tbl[1388]? = some (Cond.code yX11_check cX11_check 5 (some .int)) := rfl
set_option maxRecDepth 20000 in
theorem am_kc226 : lw_tbl[1392]? = some (Cond.code yX11_count cX11_count 4 (some .int)) := rfl
set_option maxRecDepth 20000 in
theorem am_kc227 : lw_tbl[648]? = some (Cond.code yJ6_bitCount_0f7a4 cJ6_bitCount_0f7a4 1 (some .int)) := rfl
set_option maxRecDepth 20000 in
theorem am_kc228 : lw_tbl[607]? = some (Cond.code yJ13_bitCount_95d88 cJ13_bitCount_95d88 2 (some .int)) := rfl
set_option maxRecDepth 20000 in
theorem am_kc229 : lw_tbl[503]? = some (Cond.code yJ7_fill_d0a16 cJ7_fill_d0a16 5 none) := rfl
set_option maxRecDepth 20000 in
theorem am_kc230 : lw_tbl[151]? = some (Cond.code yJ7_fill_53178 cJ7_fill_53178 4 none) := rfl
def am_hasc (mj : Nat) : Prop := ∃ p : Nat, lw_tbl[p]? = some (Cond.code (am_y mj) (am_bytes mj) (am_ml mj) (am_ret mj))
theorem am_kcs0 : ∀ j, j < 33 → am_hasc (0 + j)
  | 0, _ => ⟨233, am_kc0⟩
  | 1, _ => ⟨383, am_kc1⟩
  | 2, _ => ⟨415, am_kc2⟩
  | 3, _ => ⟨826, am_kc3⟩
  | 4, _ => ⟨818, am_kc4⟩
  | 5, _ => ⟨1021, am_kc5⟩
  | 6, _ => ⟨830, am_kc6⟩
  | 7, _ => ⟨867, am_kc7⟩
  | 8, _ => ⟨935, am_kc8⟩
  | 9, _ => ⟨899, am_kc9⟩
  | 10, _ => ⟨903, am_kc10⟩
  | 11, _ => ⟨909, am_kc11⟩
  | 12, _ => ⟨913, am_kc12⟩
  | 13, _ => ⟨918, am_kc13⟩
  | 14, _ => ⟨923, am_kc14⟩
  | 15, _ => ⟨927, am_kc15⟩
  | 16, _ => ⟨531, am_kc16⟩
  | 17, _ => ⟨596, am_kc17⟩
  | 18, _ => ⟨629, am_kc18⟩
  | 19, _ => ⟨169, am_kc19⟩
  | 20, _ => ⟨379, am_kc20⟩
  | 21, _ => ⟨411, am_kc21⟩
  | 22, _ => ⟨637, am_kc22⟩
  | 23, _ => ⟨633, am_kc23⟩
  | 24, _ => ⟨735, am_kc24⟩
  | 25, _ => ⟨750, am_kc25⟩
  | 26, _ => ⟨641, am_kc26⟩
  | 27, _ => ⟨895, am_kc27⟩
  | 28, _ => ⟨698, am_kc28⟩
  | 29, _ => ⟨702, am_kc29⟩
  | 30, _ => ⟨1017, am_kc30⟩
  | 31, _ => ⟨726, am_kc31⟩
  | 32, _ => ⟨679, am_kc32⟩
  | j + 33, h => absurd h (by omega)
theorem am_kcs1 : ∀ j, j < 33 → am_hasc (33 + j)
  | 0, _ => ⟨614, am_kc33⟩
  | 1, _ => ⟨624, am_kc34⟩
  | 2, _ => ⟨740, am_kc35⟩
  | 3, _ => ⟨745, am_kc36⟩
  | 4, _ => ⟨288, am_kc37⟩
  | 5, _ => ⟨762, am_kc38⟩
  | 6, _ => ⟨766, am_kc39⟩
  | 7, _ => ⟨771, am_kc40⟩
  | 8, _ => ⟨787, am_kc41⟩
  | 9, _ => ⟨776, am_kc42⟩
  | 10, _ => ⟨781, am_kc43⟩
  | 11, _ => ⟨262, am_kc44⟩
  | 12, _ => ⟨387, am_kc45⟩
  | 13, _ => ⟨1029, am_kc46⟩
  | 14, _ => ⟨567, am_kc47⟩
  | 15, _ => ⟨997, am_kc48⟩
  | 16, _ => ⟨1009, am_kc49⟩
  | 17, _ => ⟨1001, am_kc50⟩
  | 18, _ => ⟨1005, am_kc51⟩
  | 19, _ => ⟨1013, am_kc52⟩
  | 20, _ => ⟨145, am_kc53⟩
  | 21, _ => ⟨375, am_kc54⟩
  | 22, _ => ⟨407, am_kc55⟩
  | 23, _ => ⟨482, am_kc56⟩
  | 24, _ => ⟨584, am_kc57⟩
  | 25, _ => ⟨618, am_kc58⟩
  | 26, _ => ⟨563, am_kc59⟩
  | 27, _ => ⟨588, am_kc60⟩
  | 28, _ => ⟨675, am_kc61⟩
  | 29, _ => ⟨983, am_kc62⟩
  | 30, _ => ⟨975, am_kc63⟩
  | 31, _ => ⟨82, am_kc64⟩
  | 32, _ => ⟨500, am_kc65⟩
  | j + 33, h => absurd h (by omega)
theorem am_kcs2 : ∀ j, j < 33 → am_hasc (66 + j)
  | 0, _ => ⟨683, am_kc66⟩
  | 1, _ => ⟨799, am_kc67⟩
  | 2, _ => ⟨350, am_kc68⟩
  | 3, _ => ⟨358, am_kc69⟩
  | 4, _ => ⟨403, am_kc70⟩
  | 5, _ => ⟨526, am_kc71⟩
  | 6, _ => ⟨949, am_kc72⟩
  | 7, _ => ⟨645, am_kc73⟩
  | 8, _ => ⟨693, am_kc74⟩
  | 9, _ => ⟨604, am_kc75⟩
  | 10, _ => ⟨660, am_kc76⟩
  | 11, _ => ⟨663, am_kc77⟩
  | 12, _ => ⟨104, am_kc78⟩
  | 13, _ => ⟨795, am_kc79⟩
  | 14, _ => ⟨433, am_kc80⟩
  | 15, _ => ⟨437, am_kc81⟩
  | 16, _ => ⟨442, am_kc82⟩
  | 17, _ => ⟨363, am_kc83⟩
  | 18, _ => ⟨367, am_kc84⟩
  | 19, _ => ⟨371, am_kc85⟩
  | 20, _ => ⟨425, am_kc86⟩
  | 21, _ => ⟨510, am_kc87⟩
  | 22, _ => ⟨514, am_kc88⟩
  | 23, _ => ⟨943, am_kc89⟩
  | 24, _ => ⟨961, am_kc90⟩
  | 25, _ => ⟨967, am_kc91⟩
  | 26, _ => ⟨205, am_kc92⟩
  | 27, _ => ⟨391, am_kc93⟩
  | 28, _ => ⟨835, am_kc94⟩
  | 29, _ => ⟨840, am_kc95⟩
  | 30, _ => ⟨845, am_kc96⟩
  | 31, _ => ⟨862, am_kc97⟩
  | 32, _ => ⟨854, am_kc98⟩
  | j + 33, h => absurd h (by omega)
theorem am_kcs3 : ∀ j, j < 33 → am_hasc (99 + j)
  | 0, _ => ⟨883, am_kc99⟩
  | 1, _ => ⟨887, am_kc100⟩
  | 2, _ => ⟨76, am_kc101⟩
  | 3, _ => ⟨346, am_kc102⟩
  | 4, _ => ⟨354, am_kc103⟩
  | 5, _ => ⟨519, am_kc104⟩
  | 6, _ => ⟨399, am_kc105⟩
  | 7, _ => ⟨456, am_kc106⟩
  | 8, _ => ⟨858, am_kc107⟩
  | 9, _ => ⟨849, am_kc108⟩
  | 10, _ => ⟨446, am_kc109⟩
  | 11, _ => ⟨496, am_kc110⟩
  | 12, _ => ⟨809, am_kc111⟩
  | 13, _ => ⟨506, am_kc112⟩
  | 14, _ => ⟨68, am_kc113⟩
  | 15, _ => ⟨339, am_kc114⟩
  | 16, _ => ⟨395, am_kc115⟩
  | 17, _ => ⟨421, am_kc116⟩
  | 18, _ => ⟨429, am_kc117⟩
  | 19, _ => ⟨463, am_kc118⟩
  | 20, _ => ⟨467, am_kc119⟩
  | 21, _ => ⟨572, am_kc120⟩
  | 22, _ => ⟨576, am_kc121⟩
  | 23, _ => ⟨580, am_kc122⟩
  | 24, _ => ⟨592, am_kc123⟩
  | 25, _ => ⟨655, am_kc124⟩
  | 26, _ => ⟨667, am_kc125⟩
  | 27, _ => ⟨689, am_kc126⟩
  | 28, _ => ⟨706, am_kc127⟩
  | 29, _ => ⟨711, am_kc128⟩
  | 30, _ => ⟨722, am_kc129⟩
  | 31, _ => ⟨730, am_kc130⟩
  | 32, _ => ⟨754, am_kc131⟩
  | j + 33, h => absurd h (by omega)
theorem am_kcs4 : ∀ j, j < 33 → am_hasc (132 + j)
  | 0, _ => ⟨758, am_kc132⟩
  | 1, _ => ⟨791, am_kc133⟩
  | 2, _ => ⟨814, am_kc134⟩
  | 3, _ => ⟨822, am_kc135⟩
  | 4, _ => ⟨871, am_kc136⟩
  | 5, _ => ⟨875, am_kc137⟩
  | 6, _ => ⟨879, am_kc138⟩
  | 7, _ => ⟨891, am_kc139⟩
  | 8, _ => ⟨931, am_kc140⟩
  | 9, _ => ⟨939, am_kc141⟩
  | 10, _ => ⟨953, am_kc142⟩
  | 11, _ => ⟨957, am_kc143⟩
  | 12, _ => ⟨971, am_kc144⟩
  | 13, _ => ⟨979, am_kc145⟩
  | 14, _ => ⟨993, am_kc146⟩
  | 15, _ => ⟨1025, am_kc147⟩
  | 16, _ => ⟨342, am_kc148⟩
  | 17, _ => ⟨470, am_kc149⟩
  | 18, _ => ⟨473, am_kc150⟩
  | 19, _ => ⟨476, am_kc151⟩
  | 20, _ => ⟨485, am_kc152⟩
  | 21, _ => ⟨488, am_kc153⟩
  | 22, _ => ⟨559, am_kc154⟩
  | 23, _ => ⟨600, am_kc155⟩
  | 24, _ => ⟨671, am_kc156⟩
  | 25, _ => ⟨715, am_kc157⟩
  | 26, _ => ⟨718, am_kc158⟩
  | 27, _ => ⟨987, am_kc159⟩
  | 28, _ => ⟨1035, am_kc160⟩
  | 29, _ => ⟨1135, am_kc161⟩
  | 30, _ => ⟨1143, am_kc162⟩
  | 31, _ => ⟨1175, am_kc163⟩
  | 32, _ => ⟨1040, am_kc164⟩
  | j + 33, h => absurd h (by omega)
theorem am_kcs5 : ∀ j, j < 33 → am_hasc (165 + j)
  | 0, _ => ⟨1132, am_kc165⟩
  | 1, _ => ⟨1139, am_kc166⟩
  | 2, _ => ⟨1151, am_kc167⟩
  | 3, _ => ⟨1171, am_kc168⟩
  | 4, _ => ⟨1166, am_kc169⟩
  | 5, _ => ⟨1159, am_kc170⟩
  | 6, _ => ⟨1155, am_kc171⟩
  | 7, _ => ⟨1179, am_kc172⟩
  | 8, _ => ⟨1232, am_kc173⟩
  | 9, _ => ⟨1229, am_kc174⟩
  | 10, _ => ⟨1263, am_kc175⟩
  | 11, _ => ⟨1206, am_kc176⟩
  | 12, _ => ⟨1183, am_kc177⟩
  | 13, _ => ⟨1147, am_kc178⟩
  | 14, _ => ⟨1202, am_kc179⟩
  | 15, _ => ⟨1240, am_kc180⟩
  | 16, _ => ⟨1210, am_kc181⟩
  | 17, _ => ⟨1190, am_kc182⟩
  | 18, _ => ⟨1198, am_kc183⟩
  | 19, _ => ⟨1187, am_kc184⟩
  | 20, _ => ⟨1214, am_kc185⟩
  | 21, _ => ⟨1218, am_kc186⟩
  | 22, _ => ⟨1222, am_kc187⟩
  | 23, _ => ⟨1226, am_kc188⟩
  | 24, _ => ⟨1260, am_kc189⟩
  | 25, _ => ⟨1252, am_kc190⟩
  | 26, _ => ⟨1256, am_kc191⟩
  | 27, _ => ⟨1248, am_kc192⟩
  | 28, _ => ⟨1244, am_kc193⟩
  | 29, _ => ⟨1236, am_kc194⟩
  | 30, _ => ⟨1267, am_kc195⟩
  | 31, _ => ⟨1271, am_kc196⟩
  | 32, _ => ⟨1275, am_kc197⟩
  | j + 33, h => absurd h (by omega)
theorem am_kcs6 : ∀ j, j < 33 → am_hasc (198 + j)
  | 0, _ => ⟨1279, am_kc198⟩
  | 1, _ => ⟨1284, am_kc199⟩
  | 2, _ => ⟨1292, am_kc200⟩
  | 3, _ => ⟨1288, am_kc201⟩
  | 4, _ => ⟨1296, am_kc202⟩
  | 5, _ => ⟨1300, am_kc203⟩
  | 6, _ => ⟨1304, am_kc204⟩
  | 7, _ => ⟨1311, am_kc205⟩
  | 8, _ => ⟨1314, am_kc206⟩
  | 9, _ => ⟨1308, am_kc207⟩
  | 10, _ => ⟨1334, am_kc208⟩
  | 11, _ => ⟨1338, am_kc209⟩
  | 12, _ => ⟨1330, am_kc210⟩
  | 13, _ => ⟨1326, am_kc211⟩
  | 14, _ => ⟨1318, am_kc212⟩
  | 15, _ => ⟨1322, am_kc213⟩
  | 16, _ => ⟨1342, am_kc214⟩
  | 17, _ => ⟨1347, am_kc215⟩
  | 18, _ => ⟨1351, am_kc216⟩
  | 19, _ => ⟨1355, am_kc217⟩
  | 20, _ => ⟨1359, am_kc218⟩
  | 21, _ => ⟨1363, am_kc219⟩
  | 22, _ => ⟨1371, am_kc220⟩
  | 23, _ => ⟨1367, am_kc221⟩
  | 24, _ => ⟨1375, am_kc222⟩
  | 25, _ => ⟨1379, am_kc223⟩
  | 26, _ => ⟨1384, am_kc224⟩
  | 27, _ => ⟨1388, am_kc225⟩
  | 28, _ => ⟨1392, am_kc226⟩
  | 29, _ => ⟨648, am_kc227⟩
  | 30, _ => ⟨607, am_kc228⟩
  | 31, _ => ⟨503, am_kc229⟩
  | 32, _ => ⟨151, am_kc230⟩
  | j + 33, h => absurd h (by omega)
theorem am_kc_all {mj : Nat} (h : mj < 231) : Cond.code (am_y mj) (am_bytes mj) (am_ml mj) (am_ret mj) ∈ am_TB := by
  have g : am_hasc mj := by
    by_cases h0 : mj < 33
    · have := am_kcs0 (mj - 0) (by omega)
      rwa [show 0 + (mj - 0) = mj by omega] at this
    by_cases h33 : mj < 66
    · have := am_kcs1 (mj - 33) (by omega)
      rwa [show 33 + (mj - 33) = mj by omega] at this
    by_cases h66 : mj < 99
    · have := am_kcs2 (mj - 66) (by omega)
      rwa [show 66 + (mj - 66) = mj by omega] at this
    by_cases h99 : mj < 132
    · have := am_kcs3 (mj - 99) (by omega)
      rwa [show 99 + (mj - 99) = mj by omega] at this
    by_cases h132 : mj < 165
    · have := am_kcs4 (mj - 132) (by omega)
      rwa [show 132 + (mj - 132) = mj by omega] at this
    by_cases h165 : mj < 198
    · have := am_kcs5 (mj - 165) (by omega)
      rwa [show 165 + (mj - 165) = mj by omega] at this
    by_cases h198 : mj < 231
    · have := am_kcs6 (mj - 198) (by omega)
      rwa [show 198 + (mj - 198) = mj by omega] at this
    omega
  obtain ⟨p, hp⟩ := g
  exact List.mem_filter.mpr ⟨List.mem_of_getElem? hp, rfl⟩
