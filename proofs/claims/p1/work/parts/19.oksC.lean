theorem vX0_fill : ZMV mX0_fill 0 := zMv_of (p1 := 4237) (p2 := 1010) (p3 := 4235) (p4 := 4236) bX0_fill (by decide +kernel)
theorem vX0_weigh : ZMV mX0_weigh 2 := zMv_of (p1 := 5001) (p2 := 1010) (p3 := 5000) (p4 := 38) bX0_weigh (by decide +kernel)
theorem vX0_followOf : ZMV mX0_followOf 1 := zMv_of (p1 := 5011) (p2 := 1010) (p3 := 5010) (p4 := 39) bX0_followOf (by decide +kernel)
theorem vX0_weighRule : ZMV mX0_weighRule 2 := zMv_of (p1 := 5016) (p2 := 1010) (p3 := 5015) (p4 := 40) bX0_weighRule (by decide +kernel)
theorem vX0_settled : ZMV mX0_settled 2 := zMv_of (p1 := 5021) (p2 := 1010) (p3 := 5020) (p4 := 41) bX0_settled (by decide +kernel)
theorem vX0_mostReduced : ZMV mX0_mostReduced 1 := zMv_of (p1 := 5030) (p2 := 1010) (p3 := 5029) (p4 := 42) bX0_mostReduced (by decide +kernel)
theorem vX0_told : ZMV mX0_told 3 := zMv_of (p1 := 5052) (p2 := 1010) (p3 := 5050) (p4 := 5051) bX0_told (by decide +kernel)
theorem vX0_across : ZMV mX0_across 3 := zMv_of (p1 := 5060) (p2 := 1010) (p3 := 5058) (p4 := 5059) bX0_across (by decide +kernel)
theorem vX0_followsSettle : ZMV mX0_followsSettle 0 := zMv_of (p1 := 5202) (p2 := 1010) (p3 := 5200) (p4 := 5201) bX0_followsSettle (by decide +kernel)
theorem vX0_conflictsInAll : ZMV mX0_conflictsInAll 0 := zMv_of (p1 := 5073) (p2 := 1010) (p3 := 5071) (p4 := 5072) bX0_conflictsInAll (by decide +kernel)
theorem vX0_statesInConflict : ZMV mX0_statesInConflict 0 := zMv_of (p1 := 5078) (p2 := 1010) (p3 := 5076) (p4 := 5077) bX0_statesInConflict (by decide +kernel)
theorem vX0_statesWithDefault : ZMV mX0_statesWithDefault 0 := zMv_of (p1 := 5105) (p2 := 1010) (p3 := 5103) (p4 := 5104) bX0_statesWithDefault (by decide +kernel)
theorem vX0_actionsInAll : ZMV mX0_actionsInAll 0 := zMv_of (p1 := 5101) (p2 := 1010) (p3 := 5099) (p4 := 5100) bX0_actionsInAll (by decide +kernel)
theorem vX1_add : ZMV mX1_add 2 := zMv_of (p1 := 4106) (p2 := 1009) (p3 := 4104) (p4 := 4105) bX1_add (by decide +kernel)
theorem vX1_kernelIn : ZMV mX1_kernelIn 1 := zMv_of (p1 := 4110) (p2 := 1009) (p3 := 4108) (p4 := 4109) bX1_kernelIn (by decide +kernel)
theorem vX1_slotWithCore : ZMV mX1_slotWithCore 1 := zMv_of (p1 := 4167) (p2 := 1009) (p3 := 4165) (p4 := 4166) bX1_slotWithCore (by decide +kernel)
theorem vX1_slotFor : ZMV mX1_slotFor 3 := zMv_of (p1 := 4179) (p2 := 1009) (p3 := 4177) (p4 := 4178) bX1_slotFor (by decide +kernel)
theorem vX1_goalOf : ZMV mX1_goalOf 2 := zMv_of (p1 := 4175) (p2 := 1009) (p3 := 4173) (p4 := 4174) bX1_goalOf (by decide +kernel)
theorem vX1_setGoal : ZMV mX1_setGoal 3 := zMv_of (p1 := 4195) (p2 := 1009) (p3 := 4193) (p4 := 4194) bX1_setGoal (by decide +kernel)
theorem vX1_close : ZMV mX1_close 1 := zMv_of (p1 := 4141) (p2 := 1009) (p3 := 4139) (p4 := 4140) bX1_close (by decide +kernel)
theorem vX1_open : ZMV mX1_open 4 := zMv_of (p1 := 4145) (p2 := 1009) (p3 := 4144) (p4 := 33) bX1_open (by decide +kernel)
theorem vX1_openLookIn : ZMV mX1_openLookIn 2 := zMv_of (p1 := 4152) (p2 := 1009) (p3 := 4150) (p4 := 4151) bX1_openLookIn (by decide +kernel)
theorem vX1_number : ZMV mX1_number 0 := zMv_of (p1 := 4199) (p2 := 1009) (p3 := 4197) (p4 := 4198) bX1_number (by decide +kernel)
theorem vX1_addNumber : ZMV mX1_addNumber 3 := zMv_of (p1 := 4204) (p2 := 1009) (p3 := 4203) (p4 := 36) bX1_addNumber (by decide +kernel)
theorem vX1_hasState : ZMV mX1_hasState 1 := zMv_of (p1 := 4213) (p2 := 1009) (p3 := 4211) (p4 := 4212) bX1_hasState (by decide +kernel)
theorem vX1_kernelOf : ZMV mX1_kernelOf 1 := zMv_of (p1 := 4217) (p2 := 1009) (p3 := 4215) (p4 := 4216) bX1_kernelOf (by decide +kernel)
theorem vX1_openLook : ZMV mX1_openLook 2 := zMv_of (p1 := 4225) (p2 := 1009) (p3 := 4223) (p4 := 4224) bX1_openLook (by decide +kernel)
theorem vX1_goal : ZMV mX1_goal 2 := zMv_of (p1 := 5025) (p2 := 1009) (p3 := 5023) (p4 := 5024) bX1_goal (by decide +kernel)
theorem vX1_lettersFrom : ZMV mX1_lettersFrom 1 := zMv_of (p1 := 5006) (p2 := 1009) (p3 := 5004) (p4 := 5005) bX1_lettersFrom (by decide +kernel)
theorem vX1_closureSize : ZMV mX1_closureSize 1 := zMv_of (p1 := 5034) (p2 := 1009) (p3 := 5032) (p4 := 5033) bX1_closureSize (by decide +kernel)
theorem vX1_pathLetter : ZMV mX1_pathLetter 2 := zMv_of (p1 := 5113) (p2 := 1009) (p3 := 5111) (p4 := 5112) bX1_pathLetter (by decide +kernel)
theorem vX1_itemsOfKernels : ZMV mX1_itemsOfKernels 0 := zMv_of (p1 := 5097) (p2 := 1009) (p3 := 5095) (p4 := 5096) bX1_itemsOfKernels (by decide +kernel)
theorem vX1_splitCores : ZMV mX1_splitCores 0 := zMv_of (p1 := 5082) (p2 := 1009) (p3 := 5080) (p4 := 5081) bX1_splitCores (by decide +kernel)
theorem vX1_mostOfOneCore : ZMV mX1_mostOfOneCore 0 := zMv_of (p1 := 5090) (p2 := 1009) (p3 := 5088) (p4 := 5089) bX1_mostOfOneCore (by decide +kernel)
theorem vX1_countSharing : ZMV mX1_countSharing 0 := zMv_of (p1 := 5086) (p2 := 1009) (p3 := 5085) (p4 := 43) bX1_countSharing (by decide +kernel)
theorem vX2_build : ZMV mX2_build 1 := zMv_of (p1 := 4096) (p2 := 1007) (p3 := 4094) (p4 := 4095) bX2_build (by decide +kernel)
theorem vX2_enqueue : ZMV mX2_enqueue 1 := zMv_of (p1 := 4126) (p2 := 1007) (p3 := 4125) (p4 := 30) bX2_enqueue (by decide +kernel)
theorem vX2_dequeue : ZMV mX2_dequeue 0 := zMv_of (p1 := 4131) (p2 := 1007) (p3 := 4130) (p4 := 31) bX2_dequeue (by decide +kernel)
theorem vX2_expand : ZMV mX2_expand 2 := zMv_of (p1 := 4135) (p2 := 1007) (p3 := 4134) (p4 := 32) bX2_expand (by decide +kernel)
theorem vX2_findNext : ZMV mX2_findNext 3 := zMv_of (p1 := 4157) (p2 := 1007) (p3 := 4156) (p4 := 34) bX2_findNext (by decide +kernel)
theorem vX2_link : ZMV mX2_link 3 := zMv_of (p1 := 4163) (p2 := 1007) (p3 := 4162) (p4 := 35) bX2_link (by decide +kernel)
theorem vX3_make : ZMV mX3_make 1 := zMv_of (p1 := 5230) (p2 := 1012) (p3 := 5228) (p4 := 5229) bX3_make (by decide +kernel)
theorem vX3_drawnRule : ZMV mX3_drawnRule 1 := zMv_of (p1 := 5234) (p2 := 1012) (p3 := 5233) (p4 := 55) bX3_drawnRule (by decide +kernel)
theorem vX3_isRuleOf : ZMV mX3_isRuleOf 2 := zMv_of (p1 := 5238) (p2 := 1012) (p3 := 5237) (p4 := 56) bX3_isRuleOf (by decide +kernel)
theorem vX3_shortestRule : ZMV mX3_shortestRule 1 := zMv_of (p1 := 6005) (p2 := 1012) (p3 := 6004) (p4 := 57) bX3_shortestRule (by decide +kernel)
theorem vX3_replace : ZMV mX3_replace 2 := zMv_of (p1 := 6010) (p2 := 1012) (p3 := 6009) (p4 := 58) bX3_replace (by decide +kernel)
theorem vX4_find : ZMV mX4_find 0 := zMv_of (p1 := 3123) (p2 := 1005) (p3 := 3121) (p4 := 3122) bX4_find (by decide +kernel)
theorem vX4_isEmptyName : ZMV mX4_isEmptyName 1 := zMv_of (p1 := 4005) (p2 := 1005) (p3 := 4003) (p4 := 4004) bX4_isEmptyName (by decide +kernel)
theorem vX4_isEmptyLetter : ZMV mX4_isEmptyLetter 1 := zMv_of (p1 := 3143) (p2 := 1005) (p3 := 3142) (p4 := 9) bX4_isEmptyLetter (by decide +kernel)
theorem vX4_findEmpty : ZMV mX4_findEmpty 0 := zMv_of (p1 := 3127) (p2 := 1005) (p3 := 3126) (p4 := 7) bX4_findEmpty (by decide +kernel)
theorem vX4_emptyAhead : ZMV mX4_emptyAhead 1 := zMv_of (p1 := 3135) (p2 := 1005) (p3 := 3134) (p4 := 8) bX4_emptyAhead (by decide +kernel)
theorem vX4_findFirst : ZMV mX4_findFirst 0 := zMv_of (p1 := 3147) (p2 := 1005) (p3 := 3146) (p4 := 10) bX4_findFirst (by decide +kernel)
theorem vX4_findRest : ZMV mX4_findRest 1 := zMv_of (p1 := 3153) (p2 := 1005) (p3 := 3152) (p4 := 11) bX4_findRest (by decide +kernel)
theorem vX4_add : ZMT mX4_add 3 := zMt_of (p1 := 3157) (p2 := 1005) (p3 := 3156) bX4_add (by decide +kernel)
theorem vX4_findFollow : ZMV mX4_findFollow 0 := zMv_of (p1 := 3161) (p2 := 1005) (p3 := 3160) (p4 := 12) bX4_findFollow (by decide +kernel)
theorem vX4_addFollows : ZMV mX4_addFollows 1 := zMv_of (p1 := 3169) (p2 := 1005) (p3 := 3168) (p4 := 13) bX4_addFollows (by decide +kernel)
theorem vX4_looksBehind : ZMV mX4_looksBehind 3 := zMv_of (p1 := 3173) (p2 := 1005) (p3 := 3171) (p4 := 3172) bX4_looksBehind (by decide +kernel)
theorem vX4_findShortest : ZMV mX4_findShortest 0 := zMv_of (p1 := 3177) (p2 := 1005) (p3 := 3176) (p4 := 14) bX4_findShortest (by decide +kernel)
theorem vX4_shortestSum : ZMV mX4_shortestSum 1 := zMv_of (p1 := 3181) (p2 := 1005) (p3 := 3179) (p4 := 3180) bX4_shortestSum (by decide +kernel)
theorem vX4_findLeft : ZMV mX4_findLeft 0 := zMv_of (p1 := 3185) (p2 := 1005) (p3 := 3184) (p4 := 15) bX4_findLeft (by decide +kernel)
theorem vX4_findUseful : ZMV mX4_findUseful 0 := zMv_of (p1 := 3193) (p2 := 1005) (p3 := 3192) (p4 := 17) bX4_findUseful (by decide +kernel)
theorem vX4_findReached : ZMV mX4_findReached 1 := zMv_of (p1 := 3189) (p2 := 1005) (p3 := 3188) (p4 := 16) bX4_findReached (by decide +kernel)
theorem vX4_endingNames : ZMV mX4_endingNames 0 := zMv_of (p1 := 4050) (p2 := 1005) (p3 := 4048) (p4 := 4049) bX4_endingNames (by decide +kernel)
theorem vX4_rulesAreSelected : ZMV mX4_rulesAreSelected 0 := zMv_of (p1 := 5198) (p2 := 1005) (p3 := 5196) (p4 := 5197) bX4_rulesAreSelected (by decide +kernel)
theorem vX4_treesOf : ZMV mX4_treesOf 3 := zMv_of (p1 := 4013) (p2 := 1005) (p3 := 4011) (p4 := 4012) bX4_treesOf (by decide +kernel)
theorem vX4_treesAt : ZMT mX4_treesAt 2 := zMt_of (p1 := 4030) (p2 := 1005) (p3 := 4029) bX4_treesAt (by decide +kernel)
theorem vX4_countTrees : ZMV mX4_countTrees 0 := zMv_of (p1 := 4017) (p2 := 1005) (p3 := 4016) (p4 := 23) bX4_countTrees (by decide +kernel)
theorem vX4_addWays : ZMV mX4_addWays 1 := zMv_of (p1 := 4042) (p2 := 1005) (p3 := 4041) (p4 := 26) bX4_addWays (by decide +kernel)
theorem vX4_countWays : ZMV mX4_countWays 2 := zMv_of (p1 := 4021) (p2 := 1005) (p3 := 4020) (p4 := 24) bX4_countWays (by decide +kernel)
theorem vX4_joinWays : ZMV mX4_joinWays 1 := zMv_of (p1 := 4034) (p2 := 1005) (p3 := 4033) (p4 := 25) bX4_joinWays (by decide +kernel)
theorem vX5_codeOf : ZMT mX5_codeOf 1 := zMt_of (p1 := 3221) (p2 := 1003) (p3 := 3220) bX5_codeOf (by decide +kernel)
theorem vX5_isIn : ZMV mX5_isIn 1 := zMv_of (p1 := 3131) (p2 := 1003) (p3 := 3129) (p4 := 3130) bX5_isIn (by decide +kernel)
theorem vX5_doesPrefer : ZMV mX5_doesPrefer 1 := zMv_of (p1 := 4076) (p2 := 1003) (p3 := 4074) (p4 := 4075) bX5_doesPrefer (by decide +kernel)
theorem vX5_isUnit : ZMV mX5_isUnit 1 := zMv_of (p1 := 5065) (p2 := 1003) (p3 := 5063) (p4 := 5064) bX5_isUnit (by decide +kernel)
theorem vX5_letterAt : ZMV mX5_letterAt 2 := zMv_of (p1 := 3139) (p2 := 1003) (p3 := 3137) (p4 := 3138) bX5_letterAt (by decide +kernel)
theorem vX5_endBit : ZMV mX5_endBit 0 := zMv_of (p1 := 3165) (p2 := 1003) (p3 := 3163) (p4 := 3164) bX5_endBit (by decide +kernel)
theorem vX5_load : ZMV mX5_load 1 := zMv_of (p1 := 3086) (p2 := 1003) (p3 := 3084) (p4 := 3085) bX5_load (by decide +kernel)
theorem vX5_numberNames : ZMV mX5_numberNames 1 := zMv_of (p1 := 3090) (p2 := 1003) (p3 := 3089) (p4 := 1) bX5_numberNames (by decide +kernel)
theorem vX5_numberSigns : ZMV mX5_numberSigns 1 := zMv_of (p1 := 3098) (p2 := 1003) (p3 := 3097) (p4 := 2) bX5_numberSigns (by decide +kernel)
theorem vX5_addRule : ZMV mX5_addRule 1 := zMv_of (p1 := 3107) (p2 := 1003) (p3 := 3106) (p4 := 4) bX5_addRule (by decide +kernel)
theorem vX5_addLetter : ZMV mX5_addLetter 1 := zMv_of (p1 := 3103) (p2 := 1003) (p3 := 3102) (p4 := 3) bX5_addLetter (by decide +kernel)
theorem vX5_addOuterRule : ZMV mX5_addOuterRule 0 := zMv_of (p1 := 3111) (p2 := 1003) (p3 := 3110) (p4 := 5) bX5_addOuterRule (by decide +kernel)
theorem vX6_clear : ZMV mX6_clear 0 := zMv_of (p1 := 3115) (p2 := 1006) (p3 := 3113) (p4 := 3114) bX6_clear (by decide +kernel)
theorem vX6_add : ZMV mX6_add 1 := zMv_of (p1 := 4058) (p2 := 1006) (p3 := 4056) (p4 := 4057) bX6_add (by decide +kernel)
theorem vX6_take : ZMV mX6_take 0 := zMv_of (p1 := 4084) (p2 := 1006) (p3 := 4082) (p4 := 4083) bX6_take (by decide +kernel)
theorem vX7_put : ZMV mX7_put 2 := zMv_of (p1 := 4102) (p2 := 1008) (p3 := 4100) (p4 := 4101) bX7_put (by decide +kernel)
theorem vX7_copy : ZMV mX7_copy 1 := zMv_of (p1 := 4115) (p2 := 1008) (p3 := 4113) (p4 := 4114) bX7_copy (by decide +kernel)
theorem vX7_hasCoreOf : ZMV mX7_hasCoreOf 1 := zMv_of (p1 := 4171) (p2 := 1008) (p3 := 4169) (p4 := 4170) bX7_hasCoreOf (by decide +kernel)
theorem vX7_hasLooksOf : ZMV mX7_hasLooksOf 1 := zMv_of (p1 := 4187) (p2 := 1008) (p3 := 4185) (p4 := 4186) bX7_hasLooksOf (by decide +kernel)
theorem vX7_isCompatible : ZMV mX7_isCompatible 1 := zMv_of (p1 := 4183) (p2 := 1008) (p3 := 4181) (p4 := 4182) bX7_isCompatible (by decide +kernel)
theorem vX7_join : ZMV mX7_join 1 := zMv_of (p1 := 4191) (p2 := 1008) (p3 := 4189) (p4 := 4190) bX7_join (by decide +kernel)
theorem vX7_lookOf : ZMV mX7_lookOf 1 := zMv_of (p1 := 4221) (p2 := 1008) (p3 := 4219) (p4 := 4220) bX7_lookOf (by decide +kernel)
theorem vX8_put : ZMV mX8_put 1 := zMv_of (p1 := 5125) (p2 := 1011) (p3 := 5123) (p4 := 5124) bX8_put (by decide +kernel)
theorem vX8_run : ZMV mX8_run 2 := zMv_of (p1 := 5129) (p2 := 1011) (p3 := 5127) (p4 := 5128) bX8_run (by decide +kernel)
theorem vX8_keepRow : ZMV mX8_keepRow 0 := zMv_of (p1 := 5137) (p2 := 1011) (p3 := 5136) (p4 := 46) bX8_keepRow (by decide +kernel)
theorem vX8_push : ZMV mX8_push 3 := zMv_of (p1 := 5133) (p2 := 1011) (p3 := 5132) (p4 := 45) bX8_push (by decide +kernel)
theorem vX8_step : ZMV mX8_step 1 := zMv_of (p1 := 5142) (p2 := 1011) (p3 := 5141) (p4 := 47) bX8_step (by decide +kernel)
theorem vX8_shift : ZMV mX8_shift 1 := zMv_of (p1 := 5147) (p2 := 1011) (p3 := 5146) (p4 := 48) bX8_shift (by decide +kernel)
theorem vX8_reduce : ZMV mX8_reduce 2 := zMv_of (p1 := 5151) (p2 := 1011) (p3 := 5150) (p4 := 49) bX8_reduce (by decide +kernel)
theorem vX8_note : ZMV mX8_note 3 := zMv_of (p1 := 5156) (p2 := 1011) (p3 := 5155) (p4 := 50) bX8_note (by decide +kernel)
theorem vX8_expected : ZMV mX8_expected 0 := zMv_of (p1 := 5170) (p2 := 1011) (p3 := 5168) (p4 := 5169) bX8_expected (by decide +kernel)
theorem vX8_isTaken : ZMV mX8_isTaken 1 := zMv_of (p1 := 5174) (p2 := 1011) (p3 := 5173) (p4 := 51) bX8_isTaken (by decide +kernel)
theorem vX8_inputAsNumber : ZMV mX8_inputAsNumber 0 := zMv_of (p1 := 5215) (p2 := 1011) (p3 := 5213) (p4 := 5214) bX8_inputAsNumber (by decide +kernel)
theorem vX8_nextInput : ZMV mX8_nextInput 1 := zMv_of (p1 := 5222) (p2 := 1011) (p3 := 5220) (p4 := 5221) bX8_nextInput (by decide +kernel)
theorem vX9_open : ZMV mX9_open 0 := zMv_of (p1 := 3205) (p2 := 1004) (p3 := 3203) (p4 := 3204) bX9_open (by decide +kernel)
theorem vX9_put : ZMV mX9_put 1 := zMv_of (p1 := 3209) (p2 := 1004) (p3 := 3207) (p4 := 3208) bX9_put (by decide +kernel)
theorem vX9_letterAt : ZMV mX9_letterAt 2 := zMv_of (p1 := 3233) (p2 := 1004) (p3 := 3231) (p4 := 3232) bX9_letterAt (by decide +kernel)
theorem vX10_solid : ZMT mX10_solid 1 := zMt_of (p1 := 3038) (p2 := 1002) (p3 := 3037) bX10_solid (by decide +kernel)
theorem vX10_put : ZMV mX10_put 1 := zMv_of (p1 := 3042) (p2 := 1002) (p3 := 3040) (p4 := 3041) bX10_put (by decide +kernel)
theorem vX10_isNameByte : ZMT mX10_isNameByte 1 := zMt_of (p1 := 3057) (p2 := 1002) (p3 := 3056) bX10_isNameByte (by decide +kernel)
theorem vX10_isSignByte : ZMT mX10_isSignByte 1 := zMt_of (p1 := 3060) (p2 := 1002) (p3 := 3059) bX10_isSignByte (by decide +kernel)
theorem vX10_sentenceFault : ZMV mX10_sentenceFault 0 := zMv_of (p1 := 3073) (p2 := 1002) (p3 := 3071) (p4 := 3072) bX10_sentenceFault (by decide +kernel)
theorem vX10_grammarFault : ZMV mX10_grammarFault 0 := zMv_of (p1 := 3054) (p2 := 1002) (p3 := 3052) (p4 := 3053) bX10_grammarFault (by decide +kernel)
theorem vX10_areMany : ZMT mX10_areMany 2 := zMt_of (p1 := 3063) (p2 := 1002) (p3 := 3062) bX10_areMany (by decide +kernel)
theorem vX11_feed : ZMV mX11_feed 5 := zMv_of (p1 := 3035) (p2 := 1001) (p3 := 3033) (p4 := 3034) bX11_feed (by decide +kernel)
theorem vX11_end : ZMV mX11_end 1 := zMv_of (p1 := 3046) (p2 := 1001) (p3 := 3044) (p4 := 3045) bX11_end (by decide +kernel)
theorem vX11_fault : ZMV mX11_fault 1 := zMv_of (p1 := 3050) (p2 := 1001) (p3 := 3048) (p4 := 3049) bX11_fault (by decide +kernel)
theorem vX11_text : ZMV mX11_text 1 := zMv_of (p1 := 3077) (p2 := 1001) (p3 := 3075) (p4 := 3076) bX11_text (by decide +kernel)
theorem vX11_takeGrammar : ZMV mX11_takeGrammar 0 := zMv_of (p1 := 3082) (p2 := 1001) (p3 := 3081) (p4 := 0) bX11_takeGrammar (by decide +kernel)
theorem vX11_takeSentence : ZMV mX11_takeSentence 0 := zMv_of (p1 := 3201) (p2 := 1001) (p3 := 3200) (p4 := 19) bX11_takeSentence (by decide +kernel)
theorem vX11_rule : ZMV mX11_rule 2 := zMv_of (p1 := 6036) (p2 := 1001) (p3 := 6034) (p4 := 6035) bX11_rule (by decide +kernel)
theorem vX11_isRule : ZMV mX11_isRule 1 := zMv_of (p1 := 3217) (p2 := 1001) (p3 := 3216) (p4 := 20) bX11_isRule (by decide +kernel)
theorem vX11_letter : ZMV mX11_letter 2 := zMv_of (p1 := 3213) (p2 := 1001) (p3 := 3211) (p4 := 3212) bX11_letter (by decide +kernel)
theorem vX11_sign : ZMV mX11_sign 2 := zMv_of (p1 := 3225) (p2 := 1001) (p3 := 3223) (p4 := 3224) bX11_sign (by decide +kernel)
theorem vX11_isSentence : ZMV mX11_isSentence 1 := zMv_of (p1 := 3229) (p2 := 1001) (p3 := 3228) (p4 := 21) bX11_isSentence (by decide +kernel)
theorem vX11_name : ZMV mX11_name 2 := zMv_of (p1 := 3237) (p2 := 1001) (p3 := 3235) (p4 := 3236) bX11_name (by decide +kernel)
theorem vX11_isName : ZMV mX11_isName 1 := zMv_of (p1 := 4001) (p2 := 1001) (p3 := 4000) (p4 := 22) bX11_isName (by decide +kernel)
theorem vX11_trees : ZMV mX11_trees 3 := zMv_of (p1 := 4009) (p2 := 1001) (p3 := 4007) (p4 := 4008) bX11_trees (by decide +kernel)
theorem vX11_names : ZMV mX11_names 1 := zMv_of (p1 := 4046) (p2 := 1001) (p3 := 4044) (p4 := 4045) bX11_names (by decide +kernel)
theorem vX11_toggle : ZMV mX11_toggle 1 := zMv_of (p1 := 4054) (p2 := 1001) (p3 := 4052) (p4 := 4053) bX11_toggle (by decide +kernel)
theorem vX11_prefer : ZMV mX11_prefer 1 := zMv_of (p1 := 4068) (p2 := 1001) (p3 := 4066) (p4 := 4067) bX11_prefer (by decide +kernel)
theorem vX11_isEnding : ZMV mX11_isEnding 1 := zMv_of (p1 := 4072) (p2 := 1001) (p3 := 4071) (p4 := 28) bX11_isEnding (by decide +kernel)
theorem vX11_undo : ZMV mX11_undo 0 := zMv_of (p1 := 4080) (p2 := 1001) (p3 := 4078) (p4 := 4079) bX11_undo (by decide +kernel)
theorem vX11_flip : ZMV mX11_flip 1 := zMv_of (p1 := 4063) (p2 := 1001) (p3 := 4062) (p4 := 27) bX11_flip (by decide +kernel)
theorem vX11_rulesChanged : ZMV mX11_rulesChanged 0 := zMv_of (p1 := 3119) (p2 := 1001) (p3 := 3118) (p4 := 6) bX11_rulesChanged (by decide +kernel)
theorem vX11_prefersChanged : ZMV mX11_prefersChanged 0 := zMv_of (p1 := 3197) (p2 := 1001) (p3 := 3196) (p4 := 18) bX11_prefersChanged (by decide +kernel)
theorem vX11_states : ZMV mX11_states 1 := zMv_of (p1 := 4088) (p2 := 1001) (p3 := 4086) (p4 := 4087) bX11_states (by decide +kernel)
theorem vX11_isThere : ZMV mX11_isThere 1 := zMv_of (p1 := 4092) (p2 := 1001) (p3 := 4091) (p4 := 29) bX11_isThere (by decide +kernel)
theorem vX11_actionsOf : ZMV mX11_actionsOf 1 := zMv_of (p1 := 4233) (p2 := 1001) (p3 := 4232) (p4 := 37) bX11_actionsOf (by decide +kernel)
theorem vX11_look : ZMV mX11_look 5 := zMv_of (p1 := 4209) (p2 := 1001) (p3 := 4207) (p4 := 4208) bX11_look (by decide +kernel)
theorem vX11_state : ZMV mX11_state 3 := zMv_of (p1 := 4229) (p2 := 1001) (p3 := 4227) (p4 := 4228) bX11_state (by decide +kernel)
theorem vX11_goesTo : ZMV mX11_goesTo 3 := zMv_of (p1 := 5042) (p2 := 1001) (p3 := 5040) (p4 := 5041) bX11_goesTo (by decide +kernel)
theorem vX11_action : ZMV mX11_action 4 := zMv_of (p1 := 5047) (p2 := 1001) (p3 := 5045) (p4 := 5046) bX11_action (by decide +kernel)
theorem vX11_bridge : ZMV mX11_bridge 4 := zMv_of (p1 := 5056) (p2 := 1001) (p3 := 5054) (p4 := 5055) bX11_bridge (by decide +kernel)
theorem vX11_counts : ZMV mX11_counts 2 := zMv_of (p1 := 5069) (p2 := 1001) (p3 := 5067) (p4 := 5068) bX11_counts (by decide +kernel)
theorem vX11_path : ZMV mX11_path 3 := zMv_of (p1 := 5109) (p2 := 1001) (p3 := 5107) (p4 := 5108) bX11_path (by decide +kernel)
theorem vX11_reads : ZMV mX11_reads 4 := zMv_of (p1 := 5117) (p2 := 1001) (p3 := 5115) (p4 := 5116) bX11_reads (by decide +kernel)
theorem vX11_readsSentence : ZMV mX11_readsSentence 3 := zMv_of (p1 := 5121) (p2 := 1001) (p3 := 5120) (p4 := 44) bX11_readsSentence (by decide +kernel)
theorem vX11_reduced : ZMV mX11_reduced 4 := zMv_of (p1 := 5162) (p2 := 1001) (p3 := 5160) (p4 := 5161) bX11_reduced (by decide +kernel)
theorem vX11_expects : ZMV mX11_expects 2 := zMv_of (p1 := 5166) (p2 := 1001) (p3 := 5164) (p4 := 5165) bX11_expects (by decide +kernel)
theorem vX11_mends : ZMV mX11_mends 2 := zMv_of (p1 := 5178) (p2 := 1001) (p3 := 5176) (p4 := 5177) bX11_mends (by decide +kernel)
theorem vX11_mendAt : ZMV mX11_mendAt 3 := zMv_of (p1 := 5182) (p2 := 1001) (p3 := 5181) (p4 := 52) bX11_mendAt (by decide +kernel)
theorem vX11_endsWellChanged : ZMV mX11_endsWellChanged 5 := zMv_of (p1 := 5186) (p2 := 1001) (p3 := 5185) (p4 := 53) bX11_endsWellChanged (by decide +kernel)
theorem vX11_tree : ZMV mX11_tree 4 := zMv_of (p1 := 5190) (p2 := 1001) (p3 := 5188) (p4 := 5189) bX11_tree (by decide +kernel)
theorem vX11_sorts : ZMV mX11_sorts 0 := zMv_of (p1 := 5194) (p2 := 1001) (p3 := 5192) (p4 := 5193) bX11_sorts (by decide +kernel)
theorem vX11_same : ZMV mX11_same 3 := zMv_of (p1 := 5206) (p2 := 1001) (p3 := 5204) (p4 := 5205) bX11_same (by decide +kernel)
theorem vX11_firstByOneAlone : ZMV mX11_firstByOneAlone 3 := zMv_of (p1 := 5210) (p2 := 1001) (p3 := 5209) (p4 := 54) bX11_firstByOneAlone (by decide +kernel)
theorem vX11_word : ZMV mX11_word 2 := zMv_of (p1 := 5226) (p2 := 1001) (p3 := 5224) (p4 := 5225) bX11_word (by decide +kernel)
theorem vX11_keep : ZMV mX11_keep 1 := zMv_of (p1 := 6016) (p2 := 1001) (p3 := 6014) (p4 := 6015) bX11_keep (by decide +kernel)
theorem vX11_image : ZMV mX11_image 0 := zMv_of (p1 := 6020) (p2 := 1001) (p3 := 6018) (p4 := 6019) bX11_image (by decide +kernel)
theorem vX11_back : ZMV mX11_back 0 := zMv_of (p1 := 6024) (p2 := 1001) (p3 := 6022) (p4 := 6023) bX11_back (by decide +kernel)
theorem vX11_count : ZMV mX11_count 1 := zMv_of (p1 := 6028) (p2 := 1001) (p3 := 6026) (p4 := 6027) bX11_count (by decide +kernel)
theorem vJ7_fill_d0a16 : ZMT mJ7_fill_d0a16 2 := zMt_of (p1 := 4024) (p2 := 1015) (p3 := 4023) bJ7_fill_d0a16 (by decide +kernel)
theorem vJ7_fill_53178 : ZMT mJ7_fill_53178 2 := zMt_of (p1 := 3093) (p2 := 1015) (p3 := 3092) bJ7_fill_53178 (by decide +kernel)
theorem vJ7_fill_fda19 : ZMT mJ7_fill_fda19 4 := zMt_of (p1 := 4119) (p2 := 1015) (p3 := 4118) bJ7_fill_fda19 (by decide +kernel)
theorem k0_49 : Cond.methodLink RX0 49 yX0_weigh ∈ zT := zT_at 4238 (by decide +kernel) rfl
theorem k0_61 : Cond.methodLink RX0 61 yX0_settled ∈ zT := zT_at 5018 (by decide +kernel) rfl
theorem k0_65 : Cond.methodLink RX0 65 yX0_mostReduced ∈ zT := zT_at 5027 (by decide +kernel) rfl
theorem k0_69 : Cond.methodLink RX0 69 yJ7_fill_53178 ∈ zT := zT_at 5002 (by decide +kernel) rfl
theorem k0_75 : Cond.methodLink RX0 75 yX1_lettersFrom ∈ zT := zT_at 5003 (by decide +kernel) rfl
theorem k0_84 : Cond.methodLink RX0 84 yX1_kernelOf ∈ zT := zT_at 5007 (by decide +kernel) rfl
theorem k0_99 : Cond.methodLink RX0 99 yX0_followOf ∈ zT := zT_at 5008 (by decide +kernel) rfl
theorem k0_105 : Cond.methodLink RX0 105 yX0_weighRule ∈ zT := zT_at 5013 (by decide +kernel) rfl
theorem k0_112 : Cond.methodLink RX0 112 yX1_openLook ∈ zT := zT_at 5017 (by decide +kernel) rfl
theorem k0_115 : Cond.methodLink RX0 115 yX5_endBit ∈ zT := zT_at 5012 (by decide +kernel) rfl
theorem k0_127 : Cond.methodLink RX0 127 yX1_goal ∈ zT := zT_at 5022 (by decide +kernel) rfl
theorem k0_130 : Cond.methodLink RX0 130 yX5_doesPrefer ∈ zT := zT_at 5026 (by decide +kernel) rfl
theorem k0_134 : Cond.methodLink RX0 134 yX0_told ∈ zT := zT_at 5061 (by decide +kernel) rfl
theorem k0_138 : Cond.methodLink RX0 138 yX5_isUnit ∈ zT := zT_at 5062 (by decide +kernel) rfl
theorem k0_141 : Cond.methodLink RX0 141 yJ6_bitCount_0f7a4 ∈ zT := zT_at 5074 (by decide +kernel) rfl
theorem k1_64 : Cond.methodLink RX1 64 yX1_kernelIn ∈ zT := zT_at 4107 (by decide +kernel) rfl
theorem k1_68 : Cond.methodLink RX1 68 yX7_copy ∈ zT := zT_at 4112 (by decide +kernel) rfl
theorem k1_72 : Cond.methodLink RX1 72 yJ7_fill_fda19 ∈ zT := zT_at 4117 (by decide +kernel) rfl
theorem k1_79 : Cond.methodLink RX1 79 yX7_hasCoreOf ∈ zT := zT_at 4168 (by decide +kernel) rfl
theorem k1_83 : Cond.methodLink RX1 83 yX7_isCompatible ∈ zT := zT_at 4180 (by decide +kernel) rfl
theorem k1_86 : Cond.methodLink RX1 86 yX7_hasLooksOf ∈ zT := zT_at 4184 (by decide +kernel) rfl
theorem k1_98 : Cond.methodLink RX1 98 yX1_open ∈ zT := zT_at 4142 (by decide +kernel) rfl
theorem k1_108 : Cond.methodLink RX1 108 yX1_openLookIn ∈ zT := zT_at 4149 (by decide +kernel) rfl
theorem k1_112 : Cond.methodLink RX1 112 yX5_letterAt ∈ zT := zT_at 4146 (by decide +kernel) rfl
theorem k1_115 : Cond.methodLink RX1 115 yX4_looksBehind ∈ zT := zT_at 4147 (by decide +kernel) rfl
theorem k1_121 : Cond.methodLink RX1 121 yX5_isIn ∈ zT := zT_at 4153 (by decide +kernel) rfl
theorem k1_128 : Cond.methodLink RX1 128 yJ7_fill_53178 ∈ zT := zT_at 4200 (by decide +kernel) rfl
theorem k1_134 : Cond.methodLink RX1 134 yX1_addNumber ∈ zT := zT_at 4201 (by decide +kernel) rfl
theorem k1_138 : Cond.methodLink RX1 138 yX1_goalOf ∈ zT := zT_at 4205 (by decide +kernel) rfl
theorem k1_141 : Cond.methodLink RX1 141 yX1_kernelOf ∈ zT := zT_at 5035 (by decide +kernel) rfl
theorem k1_144 : Cond.methodLink RX1 144 yX1_openLook ∈ zT := zT_at 5036 (by decide +kernel) rfl
theorem k1_147 : Cond.methodLink RX1 147 yX1_countSharing ∈ zT := zT_at 5083 (by decide +kernel) rfl
theorem k1_150 : Cond.methodLink RX1 150 Lib.Math.max.name ∈ zT ∧ Cond.static Lib.Math.max.name ∈ zT ∧ Cond.initialized "java/lang/Math" ∈ zT ∧ Cond.code Lib.Math.max.name Lib.Math.max.code 2 (some .int) ∈ zT := ⟨zT_at 5091 (by decide +kernel) rfl, zT_at 5092 (by decide +kernel) rfl, zT_at 1020 (by decide +kernel) rfl, zT_at 5093 (by decide +kernel) rfl⟩
theorem k2_45 : Cond.methodLink RX2 45 yJ7_fill_53178 ∈ zT := zT_at 4097 (by decide +kernel) rfl
theorem k2_62 : Cond.methodLink RX2 62 yX5_endBit ∈ zT := zT_at 4098 (by decide +kernel) rfl
theorem k2_66 : Cond.methodLink RX2 66 yX7_put ∈ zT := zT_at 4099 (by decide +kernel) rfl
theorem k2_70 : Cond.methodLink RX2 70 yX1_add ∈ zT := zT_at 4103 (by decide +kernel) rfl
theorem k2_74 : Cond.methodLink RX2 74 yX2_enqueue ∈ zT := zT_at 4123 (by decide +kernel) rfl
theorem k2_79 : Cond.methodLink RX2 79 yX2_dequeue ∈ zT := zT_at 4128 (by decide +kernel) rfl
theorem k2_82 : Cond.methodLink RX2 82 yX2_expand ∈ zT := zT_at 4132 (by decide +kernel) rfl
theorem k2_86 : Cond.methodLink RX2 86 yX1_number ∈ zT := zT_at 4196 (by decide +kernel) rfl
theorem k2_92 : Cond.methodLink RX2 92 yX1_kernelIn ∈ zT := zT_at 4136 (by decide +kernel) rfl
theorem k2_96 : Cond.methodLink RX2 96 yX7_copy ∈ zT := zT_at 4137 (by decide +kernel) rfl
theorem k2_100 : Cond.methodLink RX2 100 yX1_close ∈ zT := zT_at 4138 (by decide +kernel) rfl
theorem k2_103 : Cond.methodLink RX2 103 yX2_findNext ∈ zT := zT_at 4154 (by decide +kernel) rfl
theorem k2_107 : Cond.methodLink RX2 107 yX2_link ∈ zT := zT_at 4160 (by decide +kernel) rfl
theorem k2_110 : Cond.methodLink RX2 110 yX1_openLookIn ∈ zT := zT_at 4158 (by decide +kernel) rfl
theorem k2_114 : Cond.methodLink RX2 114 yX5_letterAt ∈ zT := zT_at 4159 (by decide +kernel) rfl
theorem k2_123 : Cond.methodLink RX2 123 yX1_slotWithCore ∈ zT := zT_at 4164 (by decide +kernel) rfl
theorem k2_127 : Cond.methodLink RX2 127 yX1_goalOf ∈ zT := zT_at 4172 (by decide +kernel) rfl
theorem k2_130 : Cond.methodLink RX2 130 yX1_slotFor ∈ zT := zT_at 4176 (by decide +kernel) rfl
theorem k2_134 : Cond.methodLink RX2 134 yX7_join ∈ zT := zT_at 4188 (by decide +kernel) rfl
theorem k2_138 : Cond.methodLink RX2 138 yX1_setGoal ∈ zT := zT_at 4192 (by decide +kernel) rfl
theorem k3_31 : Cond.methodLink RX3 31 yX3_drawnRule ∈ zT := zT_at 5231 (by decide +kernel) rfl
theorem k3_35 : Cond.methodLink RX3 35 yX3_shortestRule ∈ zT := zT_at 6002 (by decide +kernel) rfl
theorem k3_38 : Cond.methodLink RX3 38 yX3_replace ∈ zT := zT_at 6007 (by decide +kernel) rfl
theorem k3_47 : Cond.methodLink RX3 47 yX3_isRuleOf ∈ zT := zT_at 5235 (by decide +kernel) rfl
theorem k3_55 : Cond.methodLink RX3 55 yX5_isIn ∈ zT := zT_at 5239 (by decide +kernel) rfl
theorem k3_62 : Cond.methodLink RX3 62 yX4_shortestSum ∈ zT := zT_at 6006 (by decide +kernel) rfl
theorem k3_75 : Cond.methodLink RX3 75 yX5_letterAt ∈ zT := zT_at 6012 (by decide +kernel) rfl
theorem k4_45 : Cond.methodLink RX4 45 yX4_findEmpty ∈ zT := zT_at 3124 (by decide +kernel) rfl
theorem k4_48 : Cond.methodLink RX4 48 yX4_findFirst ∈ zT := zT_at 3144 (by decide +kernel) rfl
theorem k4_51 : Cond.methodLink RX4 51 yX4_findFollow ∈ zT := zT_at 3158 (by decide +kernel) rfl
theorem k4_54 : Cond.methodLink RX4 54 yX4_findShortest ∈ zT := zT_at 3174 (by decide +kernel) rfl
theorem k4_57 : Cond.methodLink RX4 57 yX4_findLeft ∈ zT := zT_at 3182 (by decide +kernel) rfl
theorem k4_60 : Cond.methodLink RX4 60 yX4_findUseful ∈ zT := zT_at 3190 (by decide +kernel) rfl
theorem k4_72 : Cond.methodLink RX4 72 yX5_isIn ∈ zT := zT_at 3128 (by decide +kernel) rfl
theorem k4_76 : Cond.methodLink RX4 76 yX4_emptyAhead ∈ zT := zT_at 3132 (by decide +kernel) rfl
theorem k4_86 : Cond.methodLink RX4 86 yX5_letterAt ∈ zT := zT_at 3136 (by decide +kernel) rfl
theorem k4_90 : Cond.methodLink RX4 90 yX4_isEmptyLetter ∈ zT := zT_at 3140 (by decide +kernel) rfl
theorem k4_93 : Cond.methodLink RX4 93 yJ7_fill_53178 ∈ zT := zT_at 3148 (by decide +kernel) rfl
theorem k4_100 : Cond.methodLink RX4 100 yX4_findRest ∈ zT := zT_at 3150 (by decide +kernel) rfl
theorem k4_104 : Cond.methodLink RX4 104 yX4_add ∈ zT := zT_at 3155 (by decide +kernel) rfl
theorem k4_109 : Cond.methodLink RX4 109 yX5_endBit ∈ zT := zT_at 3162 (by decide +kernel) rfl
theorem k4_113 : Cond.methodLink RX4 113 yX4_addFollows ∈ zT := zT_at 3166 (by decide +kernel) rfl
theorem k4_116 : Cond.methodLink RX4 116 yX4_looksBehind ∈ zT := zT_at 3170 (by decide +kernel) rfl
theorem k4_120 : Cond.methodLink RX4 120 yX4_shortestSum ∈ zT := zT_at 3178 (by decide +kernel) rfl
theorem k4_123 : Cond.methodLink RX4 123 yX4_findReached ∈ zT := zT_at 3186 (by decide +kernel) rfl
theorem k4_136 : Cond.methodLink RX4 136 yX4_countTrees ∈ zT := zT_at 4014 (by decide +kernel) rfl
theorem k4_139 : Cond.methodLink RX4 139 yX4_treesAt ∈ zT := zT_at 4028 (by decide +kernel) rfl
theorem k4_142 : Cond.methodLink RX4 142 yX4_countWays ∈ zT := zT_at 4018 (by decide +kernel) rfl
theorem k4_146 : Cond.methodLink RX4 146 yX4_addWays ∈ zT := zT_at 4039 (by decide +kernel) rfl
theorem k4_151 : Cond.methodLink RX4 151 Lib.MathLoose.min_long.x ∈ zT ∧ Cond.static Lib.MathLoose.min_long.x ∈ zT ∧ Cond.initialized "java/lang/Math" ∈ zT ∧ Cond.code Lib.MathLoose.min_long.x Lib.MathLoose.min_long.code 4 (some .long) ∈ zT := ⟨zT_at 4036 (by decide +kernel) rfl, zT_at 4037 (by decide +kernel) rfl, zT_at 1020 (by decide +kernel) rfl, zT_at 4038 (by decide +kernel) rfl⟩
theorem k4_157 : Cond.methodLink RX4 157 yJ7_fill_d0a16 ∈ zT := zT_at 4022 (by decide +kernel) rfl
theorem k4_166 : Cond.methodLink RX4 166 yX4_joinWays ∈ zT := zT_at 4031 (by decide +kernel) rfl
theorem k5_43 : Cond.methodLink RX5 43 yX5_numberNames ∈ zT := zT_at 3087 (by decide +kernel) rfl
theorem k5_47 : Cond.methodLink RX5 47 yX5_numberSigns ∈ zT := zT_at 3095 (by decide +kernel) rfl
theorem k5_60 : Cond.methodLink RX5 60 yX10_isSignByte ∈ zT := zT_at 3099 (by decide +kernel) rfl
theorem k5_64 : Cond.methodLink RX5 64 yX5_addLetter ∈ zT := zT_at 3100 (by decide +kernel) rfl
theorem k5_68 : Cond.methodLink RX5 68 yX10_isNameByte ∈ zT := zT_at 3094 (by decide +kernel) rfl
theorem k5_71 : Cond.methodLink RX5 71 yX5_addRule ∈ zT := zT_at 3104 (by decide +kernel) rfl
theorem k5_74 : Cond.methodLink RX5 74 yX5_addOuterRule ∈ zT := zT_at 3108 (by decide +kernel) rfl
theorem k5_80 : Cond.methodLink RX5 80 yJ7_fill_53178 ∈ zT := zT_at 3091 (by decide +kernel) rfl
theorem k8_66 : Cond.methodLink RX8 66 yX8_push ∈ zT := zT_at 5130 (by decide +kernel) rfl
theorem k8_70 : Cond.methodLink RX8 70 yX8_keepRow ∈ zT := zT_at 5134 (by decide +kernel) rfl
theorem k8_81 : Cond.methodLink RX8 81 yX8_step ∈ zT := zT_at 5139 (by decide +kernel) rfl
theorem k8_94 : Cond.methodLink RX8 94 yX0_told ∈ zT := zT_at 5143 (by decide +kernel) rfl
theorem k8_100 : Cond.methodLink RX8 100 yX8_shift ∈ zT := zT_at 5144 (by decide +kernel) rfl
theorem k8_103 : Cond.methodLink RX8 103 yX8_reduce ∈ zT := zT_at 5148 (by decide +kernel) rfl
theorem k8_109 : Cond.methodLink RX8 109 Lib.Math.max.name ∈ zT ∧ Cond.static Lib.Math.max.name ∈ zT ∧ Cond.initialized "java/lang/Math" ∈ zT ∧ Cond.code Lib.Math.max.name Lib.Math.max.code 2 (some .int) ∈ zT := ⟨zT_at 5152 (by decide +kernel) rfl, zT_at 5092 (by decide +kernel) rfl, zT_at 1020 (by decide +kernel) rfl, zT_at 5093 (by decide +kernel) rfl⟩
theorem k8_114 : Cond.methodLink RX8 114 yX8_note ∈ zT := zT_at 5153 (by decide +kernel) rfl
theorem k8_120 : Cond.methodLink RX8 120 yX0_across ∈ zT := zT_at 5157 (by decide +kernel) rfl
theorem k8_128 : Cond.methodLink RX8 128 yX1_goal ∈ zT := zT_at 5158 (by decide +kernel) rfl
theorem k8_133 : Cond.methodLink RX8 133 yX8_isTaken ∈ zT := zT_at 5171 (by decide +kernel) rfl
theorem k10_19 : Cond.methodLink RX10 19 yX10_isSignByte ∈ zT := zT_at 3058 (by decide +kernel) rfl
theorem k10_23 : Cond.methodLink RX10 23 yX10_isNameByte ∈ zT := zT_at 3055 (by decide +kernel) rfl
theorem k10_26 : Cond.methodLink RX10 26 yX10_areMany ∈ zT := zT_at 3061 (by decide +kernel) rfl
theorem k10_30 : Cond.methodLink RX10 30 yJ6_bitCount_0f7a4 ∈ zT := zT_at 3064 (by decide +kernel) rfl
theorem k11_32 : Cond.methodLink RX11 32 yX4_init ∈ zT := zT_at 1138 (by decide +kernel) rfl
theorem k11_48 : Cond.methodLink RX11 48 yX2_init ∈ zT := zT_at 1216 (by decide +kernel) rfl
theorem k11_65 : Cond.methodLink RX11 65 yX1_init ∈ zT := zT_at 2033 (by decide +kernel) rfl
theorem k11_68 : Cond.methodLink RX11 68 yX0_init ∈ zT := zT_at 2099 (by decide +kernel) rfl
theorem k11_73 : Cond.methodLink RX11 73 yX8_init ∈ zT := zT_at 2146 (by decide +kernel) rfl
theorem k11_80 : Cond.methodLink RX11 80 yX3_init ∈ zT := zT_at 2219 (by decide +kernel) rfl
theorem k11_87 : Cond.methodLink RX11 87 yX10_solid ∈ zT := zT_at 3036 (by decide +kernel) rfl
theorem k11_95 : Cond.methodLink RX11 95 yX10_put ∈ zT := zT_at 3039 (by decide +kernel) rfl
theorem k11_99 : Cond.methodLink RX11 99 yX10_grammarFault ∈ zT := zT_at 3051 (by decide +kernel) rfl
theorem k11_103 : Cond.methodLink RX11 103 yX10_sentenceFault ∈ zT := zT_at 3070 (by decide +kernel) rfl
theorem k11_106 : Cond.methodLink RX11 106 yX11_fault ∈ zT := zT_at 3078 (by decide +kernel) rfl
theorem k11_109 : Cond.methodLink RX11 109 yX11_takeGrammar ∈ zT := zT_at 3079 (by decide +kernel) rfl
theorem k11_112 : Cond.methodLink RX11 112 yX11_takeSentence ∈ zT := zT_at 3198 (by decide +kernel) rfl
theorem k11_115 : Cond.methodLink RX11 115 yX5_load ∈ zT := zT_at 3083 (by decide +kernel) rfl
theorem k11_119 : Cond.methodLink RX11 119 yX6_clear ∈ zT := zT_at 3112 (by decide +kernel) rfl
theorem k11_122 : Cond.methodLink RX11 122 yX11_rulesChanged ∈ zT := zT_at 3116 (by decide +kernel) rfl
theorem k11_131 : Cond.methodLink RX11 131 yX9_open ∈ zT := zT_at 3202 (by decide +kernel) rfl
theorem k11_138 : Cond.methodLink RX11 138 yX9_put ∈ zT := zT_at 3206 (by decide +kernel) rfl
theorem k11_139 : Cond.methodLink RX11 139 yX11_isRule ∈ zT := zT_at 3214 (by decide +kernel) rfl
theorem k11_155 : Cond.methodLink RX11 155 yX5_isIn ∈ zT := zT_at 4064 (by decide +kernel) rfl
theorem k11_158 : Cond.methodLink RX11 158 yX5_isUnit ∈ zT := zT_at 6103 (by decide +kernel) rfl
theorem k11_161 : Cond.methodLink RX11 161 yX5_letterAt ∈ zT := zT_at 3218 (by decide +kernel) rfl
theorem k11_165 : Cond.methodLink RX11 165 yX5_codeOf ∈ zT := zT_at 3219 (by decide +kernel) rfl
theorem k11_168 : Cond.methodLink RX11 168 yX11_isSentence ∈ zT := zT_at 3226 (by decide +kernel) rfl
theorem k11_175 : Cond.methodLink RX11 175 yX9_letterAt ∈ zT := zT_at 3230 (by decide +kernel) rfl
theorem k11_176 : Cond.methodLink RX11 176 yX11_isName ∈ zT := zT_at 3238 (by decide +kernel) rfl
theorem k11_179 : Cond.methodLink RX11 179 yX4_isEmptyName ∈ zT := zT_at 4002 (by decide +kernel) rfl
theorem k11_197 : Cond.methodLink RX11 197 yX4_treesOf ∈ zT := zT_at 4010 (by decide +kernel) rfl
theorem k11_210 : Cond.methodLink RX11 210 yX4_endingNames ∈ zT := zT_at 4047 (by decide +kernel) rfl
theorem k11_213 : Cond.methodLink RX11 213 yX6_add ∈ zT := zT_at 4055 (by decide +kernel) rfl
theorem k11_216 : Cond.methodLink RX11 216 yX11_flip ∈ zT := zT_at 4060 (by decide +kernel) rfl
theorem k11_219 : Cond.methodLink RX11 219 yX11_isEnding ∈ zT := zT_at 4069 (by decide +kernel) rfl
theorem k11_222 : Cond.methodLink RX11 222 yX5_doesPrefer ∈ zT := zT_at 4073 (by decide +kernel) rfl
theorem k11_231 : Cond.methodLink RX11 231 yX6_take ∈ zT := zT_at 4081 (by decide +kernel) rfl
theorem k11_240 : Cond.methodLink RX11 240 yX11_prefersChanged ∈ zT := zT_at 3194 (by decide +kernel) rfl
theorem k11_243 : Cond.methodLink RX11 243 yX4_find ∈ zT := zT_at 3120 (by decide +kernel) rfl
theorem k11_251 : Cond.methodLink RX11 251 yX11_isThere ∈ zT := zT_at 4089 (by decide +kernel) rfl
theorem k11_257 : Cond.methodLink RX11 257 yX2_build ∈ zT := zT_at 4093 (by decide +kernel) rfl
theorem k11_264 : Cond.methodLink RX11 264 yX0_fill ∈ zT := zT_at 4234 (by decide +kernel) rfl
theorem k11_267 : Cond.methodLink RX11 267 yX1_hasState ∈ zT := zT_at 4210 (by decide +kernel) rfl
theorem k11_270 : Cond.methodLink RX11 270 yX1_kernelOf ∈ zT := zT_at 4214 (by decide +kernel) rfl
theorem k11_274 : Cond.methodLink RX11 274 yX7_lookOf ∈ zT := zT_at 4218 (by decide +kernel) rfl
theorem k11_279 : Cond.methodLink RX11 279 yX1_openLook ∈ zT := zT_at 4222 (by decide +kernel) rfl
theorem k11_282 : Cond.methodLink RX11 282 yX11_actionsOf ∈ zT := zT_at 4230 (by decide +kernel) rfl
theorem k11_289 : Cond.methodLink RX11 289 yX1_closureSize ∈ zT := zT_at 5031 (by decide +kernel) rfl
theorem k11_292 : Cond.methodLink RX11 292 yX1_lettersFrom ∈ zT := zT_at 5037 (by decide +kernel) rfl
theorem k11_295 : Cond.methodLink RX11 295 yJ6_bitCount_0f7a4 ∈ zT := zT_at 5038 (by decide +kernel) rfl
theorem k11_309 : Cond.methodLink RX11 309 yX1_goal ∈ zT := zT_at 5043 (by decide +kernel) rfl
theorem k11_313 : Cond.methodLink RX11 313 yX0_told ∈ zT := zT_at 5049 (by decide +kernel) rfl
theorem k11_317 : Cond.methodLink RX11 317 yX0_across ∈ zT := zT_at 5057 (by decide +kernel) rfl
theorem k11_320 : Cond.methodLink RX11 320 yX0_conflictsInAll ∈ zT := zT_at 5070 (by decide +kernel) rfl
theorem k11_323 : Cond.methodLink RX11 323 yX0_statesInConflict ∈ zT := zT_at 5075 (by decide +kernel) rfl
theorem k11_326 : Cond.methodLink RX11 326 yX1_splitCores ∈ zT := zT_at 5079 (by decide +kernel) rfl
theorem k11_329 : Cond.methodLink RX11 329 yX1_mostOfOneCore ∈ zT := zT_at 5087 (by decide +kernel) rfl
theorem k11_332 : Cond.methodLink RX11 332 yX1_itemsOfKernels ∈ zT := zT_at 5094 (by decide +kernel) rfl
theorem k11_335 : Cond.methodLink RX11 335 yX0_actionsInAll ∈ zT := zT_at 5098 (by decide +kernel) rfl
theorem k11_338 : Cond.methodLink RX11 338 yX0_statesWithDefault ∈ zT := zT_at 5102 (by decide +kernel) rfl
theorem k11_341 : Cond.methodLink RX11 341 yX1_pathLetter ∈ zT := zT_at 5110 (by decide +kernel) rfl
theorem k11_344 : Cond.methodLink RX11 344 yX11_readsSentence ∈ zT := zT_at 5118 (by decide +kernel) rfl
theorem k11_361 : Cond.methodLink RX11 361 yX8_put ∈ zT := zT_at 5122 (by decide +kernel) rfl
theorem k11_362 : Cond.methodLink RX11 362 yX8_run ∈ zT := zT_at 5126 (by decide +kernel) rfl
theorem k11_368 : Cond.methodLink RX11 368 yX8_expected ∈ zT := zT_at 5167 (by decide +kernel) rfl
theorem k11_371 : Cond.methodLink RX11 371 yX11_mendAt ∈ zT := zT_at 5179 (by decide +kernel) rfl
theorem k11_375 : Cond.methodLink RX11 375 yX11_endsWellChanged ∈ zT := zT_at 5183 (by decide +kernel) rfl
theorem k11_388 : Cond.methodLink RX11 388 yX4_rulesAreSelected ∈ zT := zT_at 5195 (by decide +kernel) rfl
theorem k11_392 : Cond.methodLink RX11 392 yX0_followsSettle ∈ zT := zT_at 5199 (by decide +kernel) rfl
theorem k11_395 : Cond.methodLink RX11 395 yX11_firstByOneAlone ∈ zT := zT_at 5207 (by decide +kernel) rfl
theorem k11_400 : Cond.methodLink RX11 400 yX8_inputAsNumber ∈ zT := zT_at 5212 (by decide +kernel) rfl
theorem k11_403 : Cond.methodLink RX11 403 Lib.Math.min.name ∈ zT ∧ Cond.static Lib.Math.min.name ∈ zT ∧ Cond.initialized "java/lang/Math" ∈ zT ∧ Cond.code Lib.Math.min.name Lib.Math.min.code 2 (some .int) ∈ zT := ⟨zT_at 5216 (by decide +kernel) rfl, zT_at 5217 (by decide +kernel) rfl, zT_at 1020 (by decide +kernel) rfl, zT_at 5218 (by decide +kernel) rfl⟩
theorem k11_408 : Cond.methodLink RX11 408 yX8_nextInput ∈ zT := zT_at 5219 (by decide +kernel) rfl
theorem k11_411 : Cond.methodLink RX11 411 yX3_make ∈ zT := zT_at 5227 (by decide +kernel) rfl
