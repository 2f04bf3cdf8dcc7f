theorem vX12_in : ZMT mX12_in 3 := zMt_of (p1 := 7124) (p2 := 1013) (p3 := 7123) bX12_in (by decide +kernel)
theorem vX12_has : ZMT mX12_has 2 := zMt_of (p1 := 7174) (p2 := 1013) (p3 := 7173) bX12_has (by decide +kernel)
theorem vX12_thrown : ZMV mX12_thrown 0 := zMv_of (p1 := 7110) (p2 := 1013) (p3 := 7108) (p4 := 7109) bX12_thrown (by decide +kernel)
theorem vX12_byteOf : ZMT mX12_byteOf 6 := zMt_of (p1 := 7117) (p2 := 1013) (p3 := 7116) bX12_byteOf (by decide +kernel)
theorem vX12_feed : ZMV mX12_feed 5 := zMv_of (p1 := 7114) (p2 := 1013) (p3 := 7112) (p4 := 7113) bX12_feed (by decide +kernel)
theorem vX12_end : ZMV mX12_end 1 := zMv_of (p1 := 7121) (p2 := 1013) (p3 := 7119) (p4 := 7120) bX12_end (by decide +kernel)
theorem vX12_ahead : ZMV mX12_ahead 0 := zMv_of (p1 := 7140) (p2 := 1013) (p3 := 7139) (p4 := 62) bX12_ahead (by decide +kernel)
theorem vX12_bad : ZMV mX12_bad 0 := zMv_of (p1 := 7148) (p2 := 1013) (p3 := 7147) (p4 := 63) bX12_bad (by decide +kernel)
theorem vX12_isName : ZMT mX12_isName 1 := zMt_of (p1 := 7143) (p2 := 1013) (p3 := 7142) bX12_isName (by decide +kernel)
theorem vX12_isSign : ZMT mX12_isSign 1 := zMt_of (p1 := 7151) (p2 := 1013) (p3 := 7150) bX12_isSign (by decide +kernel)
theorem vX12_takeLetter : ZMV mX12_takeLetter 1 := zMv_of (p1 := 7155) (p2 := 1013) (p3 := 7154) (p4 := 64) bX12_takeLetter (by decide +kernel)
theorem vX12_readRule : ZMV mX12_readRule 0 := zMv_of (p1 := 7136) (p2 := 1013) (p3 := 7135) (p4 := 61) bX12_readRule (by decide +kernel)
theorem vX12_readGrammar : ZMV mX12_readGrammar 0 := zMv_of (p1 := 7132) (p2 := 1013) (p3 := 7131) (p4 := 60) bX12_readGrammar (by decide +kernel)
theorem vX12_readSentence : ZMV mX12_readSentence 1 := zMv_of (p1 := 7159) (p2 := 1013) (p3 := 7158) (p4 := 65) bX12_readSentence (by decide +kernel)
theorem vX12_fault : ZMV mX12_fault 1 := zMv_of (p1 := 7128) (p2 := 1013) (p3 := 7126) (p4 := 7127) bX12_fault (by decide +kernel)
theorem vX12_nameOf : ZMV mX12_nameOf 1 := zMv_of (p1 := 7171) (p2 := 1013) (p3 := 7170) (p4 := 67) bX12_nameOf (by decide +kernel)
theorem vX12_signOf : ZMV mX12_signOf 1 := zMv_of (p1 := 7178) (p2 := 1013) (p3 := 7177) (p4 := 68) bX12_signOf (by decide +kernel)
theorem vX12_takeGrammar : ZMV mX12_takeGrammar 0 := zMv_of (p1 := 7167) (p2 := 1013) (p3 := 7166) (p4 := 66) bX12_takeGrammar (by decide +kernel)
theorem vX12_text : ZMV mX12_text 1 := zMv_of (p1 := 7163) (p2 := 1013) (p3 := 7161) (p4 := 7162) bX12_text (by decide +kernel)
theorem vX12_isRule : ZMV mX12_isRule 1 := zMv_of (p1 := 7190) (p2 := 1013) (p3 := 7189) (p4 := 70) bX12_isRule (by decide +kernel)
theorem vX12_isIn : ZMV mX12_isIn 1 := zMv_of (p1 := 7194) (p2 := 1013) (p3 := 7193) (p4 := 71) bX12_isIn (by decide +kernel)
theorem vX12_letterAt : ZMV mX12_letterAt 2 := zMv_of (p1 := 7202) (p2 := 1013) (p3 := 7201) (p4 := 73) bX12_letterAt (by decide +kernel)
theorem vX12_rule : ZMV mX12_rule 2 := zMv_of (p1 := 7186) (p2 := 1013) (p3 := 7184) (p4 := 7185) bX12_rule (by decide +kernel)
theorem vX12_isUnit : ZMV mX12_isUnit 1 := zMv_of (p1 := 7198) (p2 := 1013) (p3 := 7197) (p4 := 72) bX12_isUnit (by decide +kernel)
theorem vX12_letter : ZMV mX12_letter 2 := zMv_of (p1 := 7206) (p2 := 1013) (p3 := 7204) (p4 := 7205) bX12_letter (by decide +kernel)
theorem vX12_sign : ZMV mX12_sign 2 := zMv_of (p1 := 7210) (p2 := 1013) (p3 := 7208) (p4 := 7209) bX12_sign (by decide +kernel)
theorem vX12_changed : ZMV mX12_changed 0 := zMv_of (p1 := 7182) (p2 := 1013) (p3 := 7181) (p4 := 69) bX12_changed (by decide +kernel)
theorem vX12_isEmptyLetter : ZMV mX12_isEmptyLetter 1 := zMv_of (p1 := 7235) (p2 := 1013) (p3 := 7234) (p4 := 78) bX12_isEmptyLetter (by decide +kernel)
theorem vX12_isEmptyFrom : ZMV mX12_isEmptyFrom 2 := zMv_of (p1 := 7231) (p2 := 1013) (p3 := 7230) (p4 := 77) bX12_isEmptyFrom (by decide +kernel)
theorem vX12_firstFrom : ZMV mX12_firstFrom 2 := zMv_of (p1 := 7239) (p2 := 1013) (p3 := 7238) (p4 := 79) bX12_firstFrom (by decide +kernel)
theorem vX12_shortestOf : ZMV mX12_shortestOf 1 := zMv_of (p1 := 8003) (p2 := 1013) (p3 := 8002) (p4 := 80) bX12_shortestOf (by decide +kernel)
theorem vX12_layOnce : ZMV mX12_layOnce 0 := zMv_of (p1 := 7227) (p2 := 1013) (p3 := 7226) (p4 := 76) bX12_layOnce (by decide +kernel)
theorem vX12_layFollowOnce : ZMV mX12_layFollowOnce 0 := zMv_of (p1 := 8008) (p2 := 1013) (p3 := 8007) (p4 := 81) bX12_layFollowOnce (by decide +kernel)
theorem vX12_laySets : ZMV mX12_laySets 0 := zMv_of (p1 := 7222) (p2 := 1013) (p3 := 7221) (p4 := 75) bX12_laySets (by decide +kernel)
theorem vX12_isNamed : ZMV mX12_isNamed 1 := zMv_of (p1 := 7218) (p2 := 1013) (p3 := 7217) (p4 := 74) bX12_isNamed (by decide +kernel)
theorem vX12_name : ZMV mX12_name 2 := zMv_of (p1 := 7214) (p2 := 1013) (p3 := 7212) (p4 := 7213) bX12_name (by decide +kernel)
theorem vX12_treesAt : ZMV mX12_treesAt 3 := zMv_of (p1 := 8020) (p2 := 1013) (p3 := 8019) (p4 := 83) bX12_treesAt (by decide +kernel)
theorem vX12_heldTrees : ZMT mX12_heldTrees 1 := zMt_of (p1 := 8023) (p2 := 1013) (p3 := 8022) bX12_heldTrees (by decide +kernel)
theorem vX12_addTrees : ZMV mX12_addTrees 2 := zMv_of (p1 := 8016) (p2 := 1013) (p3 := 8015) (p4 := 82) bX12_addTrees (by decide +kernel)
theorem vX12_trees : ZMV mX12_trees 3 := zMv_of (p1 := 8012) (p2 := 1013) (p3 := 8010) (p4 := 8011) bX12_trees (by decide +kernel)
theorem vX12_layReaches : ZMV mX12_layReaches 1 := zMv_of (p1 := 8037) (p2 := 1013) (p3 := 8036) (p4 := 85) bX12_layReaches (by decide +kernel)
theorem vX12_leftOnes : ZMV mX12_leftOnes 0 := zMv_of (p1 := 8033) (p2 := 1013) (p3 := 8032) (p4 := 84) bX12_leftOnes (by decide +kernel)
theorem vX12_usefulOnes : ZMV mX12_usefulOnes 0 := zMv_of (p1 := 8041) (p2 := 1013) (p3 := 8040) (p4 := 86) bX12_usefulOnes (by decide +kernel)
theorem vX12_endingOnes : ZMV mX12_endingOnes 0 := zMv_of (p1 := 8045) (p2 := 1013) (p3 := 8044) (p4 := 87) bX12_endingOnes (by decide +kernel)
theorem vX12_names : ZMV mX12_names 1 := zMv_of (p1 := 8029) (p2 := 1013) (p3 := 8027) (p4 := 8028) bX12_names (by decide +kernel)
theorem vX12_putBy : ZMV mX12_putBy 0 := zMv_of (p1 := 8053) (p2 := 1013) (p3 := 8052) (p4 := 88) bX12_putBy (by decide +kernel)
theorem vX12_become : ZMV mX12_become 2 := zMv_of (p1 := 8057) (p2 := 1013) (p3 := 8056) (p4 := 89) bX12_become (by decide +kernel)
theorem vX12_toggle : ZMV mX12_toggle 1 := zMv_of (p1 := 8049) (p2 := 1013) (p3 := 8047) (p4 := 8048) bX12_toggle (by decide +kernel)
theorem vX12_prefer : ZMV mX12_prefer 1 := zMv_of (p1 := 8061) (p2 := 1013) (p3 := 8059) (p4 := 8060) bX12_prefer (by decide +kernel)
theorem vX12_undo : ZMV mX12_undo 0 := zMv_of (p1 := 8065) (p2 := 1013) (p3 := 8063) (p4 := 8064) bX12_undo (by decide +kernel)
theorem vX12_itemAt : ZMT mX12_itemAt 2 := zMt_of (p1 := 8080) (p2 := 1013) (p3 := 8079) bX12_itemAt (by decide +kernel)
theorem vX12_rowOf : ZMT mX12_rowOf 2 := zMt_of (p1 := 8087) (p2 := 1013) (p3 := 8086) bX12_rowOf (by decide +kernel)
theorem vX12_goesBy : ZMV mX12_goesBy 3 := zMv_of (p1 := 8119) (p2 := 1013) (p3 := 8118) (p4 := 100) bX12_goesBy (by decide +kernel)
theorem vX12_letterBehind : ZMV mX12_letterBehind 1 := zMv_of (p1 := 8107) (p2 := 1013) (p3 := 8106) (p4 := 97) bX12_letterBehind (by decide +kernel)
theorem vX12_byOf : ZMV mX12_byOf 1 := zMv_of (p1 := 8115) (p2 := 1013) (p3 := 8114) (p4 := 99) bX12_byOf (by decide +kernel)
theorem vX12_layClosure : ZMV mX12_layClosure 2 := zMv_of (p1 := 8103) (p2 := 1013) (p3 := 8102) (p4 := 96) bX12_layClosure (by decide +kernel)
theorem vX12_layNext : ZMV mX12_layNext 3 := zMv_of (p1 := 8111) (p2 := 1013) (p3 := 8110) (p4 := 98) bX12_layNext (by decide +kernel)
theorem vX12_isNext : ZMV mX12_isNext 3 := zMv_of (p1 := 8131) (p2 := 1013) (p3 := 8130) (p4 := 103) bX12_isNext (by decide +kernel)
theorem vX12_isWeakly : ZMV mX12_isWeakly 2 := zMv_of (p1 := 8135) (p2 := 1013) (p3 := 8134) (p4 := 104) bX12_isWeakly (by decide +kernel)
theorem vX12_doesTake : ZMV mX12_doesTake 2 := zMv_of (p1 := 8127) (p2 := 1013) (p3 := 8126) (p4 := 102) bX12_doesTake (by decide +kernel)
theorem vX12_takerOf : ZMV mX12_takerOf 2 := zMv_of (p1 := 8123) (p2 := 1013) (p3 := 8122) (p4 := 101) bX12_takerOf (by decide +kernel)
theorem vX12_enqueue : ZMV mX12_enqueue 1 := zMv_of (p1 := 8091) (p2 := 1013) (p3 := 8090) (p4 := 93) bX12_enqueue (by decide +kernel)
theorem vX12_dequeue : ZMV mX12_dequeue 0 := zMv_of (p1 := 8095) (p2 := 1013) (p3 := 8094) (p4 := 94) bX12_dequeue (by decide +kernel)
theorem vX12_newState : ZMV mX12_newState 1 := zMv_of (p1 := 8084) (p2 := 1013) (p3 := 8083) (p4 := 92) bX12_newState (by decide +kernel)
theorem vX12_addLooks : ZMV mX12_addLooks 2 := zMv_of (p1 := 8139) (p2 := 1013) (p3 := 8138) (p4 := 105) bX12_addLooks (by decide +kernel)
theorem vX12_goThrough : ZMV mX12_goThrough 2 := zMv_of (p1 := 8099) (p2 := 1013) (p3 := 8098) (p4 := 95) bX12_goThrough (by decide +kernel)
theorem vX12_numberAnew : ZMV mX12_numberAnew 1 := zMv_of (p1 := 8143) (p2 := 1013) (p3 := 8142) (p4 := 106) bX12_numberAnew (by decide +kernel)
theorem vX12_canReduce : ZMV mX12_canReduce 4 := zMv_of (p1 := 8151) (p2 := 1013) (p3 := 8150) (p4 := 108) bX12_canReduce (by decide +kernel)
theorem vX12_layAction : ZMV mX12_layAction 3 := zMv_of (p1 := 8147) (p2 := 1013) (p3 := 8146) (p4 := 107) bX12_layAction (by decide +kernel)
theorem vX12_plainAction : ZMV mX12_plainAction 3 := zMv_of (p1 := 8159) (p2 := 1013) (p3 := 8158) (p4 := 110) bX12_plainAction (by decide +kernel)
theorem vX12_defaultOf : ZMV mX12_defaultOf 2 := zMv_of (p1 := 8155) (p2 := 1013) (p3 := 8154) (p4 := 109) bX12_defaultOf (by decide +kernel)
theorem vX12_isThere : ZMV mX12_isThere 1 := zMv_of (p1 := 8073) (p2 := 1013) (p3 := 8072) (p4 := 90) bX12_isThere (by decide +kernel)
theorem vX12_layAutomaton : ZMV mX12_layAutomaton 1 := zMv_of (p1 := 8077) (p2 := 1013) (p3 := 8076) (p4 := 91) bX12_layAutomaton (by decide +kernel)
theorem vX12_isState : ZMV mX12_isState 2 := zMv_of (p1 := 8167) (p2 := 1013) (p3 := 8166) (p4 := 111) bX12_isState (by decide +kernel)
theorem vX12_actionOf : ZMV mX12_actionOf 4 := zMv_of (p1 := 8199) (p2 := 1013) (p3 := 8198) (p4 := 116) bX12_actionOf (by decide +kernel)
theorem vX12_states : ZMV mX12_states 1 := zMv_of (p1 := 8069) (p2 := 1013) (p3 := 8067) (p4 := 8068) bX12_states (by decide +kernel)
theorem vX12_look : ZMV mX12_look 5 := zMv_of (p1 := 8163) (p2 := 1013) (p3 := 8161) (p4 := 8162) bX12_look (by decide +kernel)
theorem vX12_itemMany : ZMV mX12_itemMany 3 := zMv_of (p1 := 8175) (p2 := 1013) (p3 := 8174) (p4 := 112) bX12_itemMany (by decide +kernel)
theorem vX12_byMany : ZMV mX12_byMany 2 := zMv_of (p1 := 8179) (p2 := 1013) (p3 := 8178) (p4 := 113) bX12_byMany (by decide +kernel)
theorem vX12_state : ZMV mX12_state 3 := zMv_of (p1 := 8171) (p2 := 1013) (p3 := 8169) (p4 := 8170) bX12_state (by decide +kernel)
theorem vX12_isLetter : ZMV mX12_isLetter 1 := zMv_of (p1 := 8191) (p2 := 1013) (p3 := 8190) (p4 := 115) bX12_isLetter (by decide +kernel)
theorem vX12_goesTo : ZMV mX12_goesTo 3 := zMv_of (p1 := 8187) (p2 := 1013) (p3 := 8185) (p4 := 8186) bX12_goesTo (by decide +kernel)
theorem vX12_action : ZMV mX12_action 4 := zMv_of (p1 := 8195) (p2 := 1013) (p3 := 8193) (p4 := 8194) bX12_action (by decide +kernel)
theorem vX12_bridgeOf : ZMV mX12_bridgeOf 4 := zMv_of (p1 := 8208) (p2 := 1013) (p3 := 8207) (p4 := 117) bX12_bridgeOf (by decide +kernel)
theorem vX12_bridge : ZMV mX12_bridge 4 := zMv_of (p1 := 8204) (p2 := 1013) (p3 := 8202) (p4 := 8203) bX12_bridge (by decide +kernel)
theorem vX12_layPath : ZMV mX12_layPath 2 := zMv_of (p1 := 8183) (p2 := 1013) (p3 := 8182) (p4 := 114) bX12_layPath (by decide +kernel)
theorem vX12_path : ZMV mX12_path 3 := zMv_of (p1 := 8212) (p2 := 1013) (p3 := 8210) (p4 := 8211) bX12_path (by decide +kernel)
theorem vX12_isSameCore : ZMV mX12_isSameCore 3 := zMv_of (p1 := 8224) (p2 := 1013) (p3 := 8223) (p4 := 119) bX12_isSameCore (by decide +kernel)
theorem vX12_coreMany : ZMV mX12_coreMany 2 := zMv_of (p1 := 8220) (p2 := 1013) (p3 := 8219) (p4 := 118) bX12_coreMany (by decide +kernel)
theorem vX12_countOf : ZMV mX12_countOf 3 := zMv_of (p1 := 8229) (p2 := 1013) (p3 := 8228) (p4 := 120) bX12_countOf (by decide +kernel)
theorem vX12_counts : ZMV mX12_counts 2 := zMv_of (p1 := 8216) (p2 := 1013) (p3 := 8214) (p4 := 8215) bX12_counts (by decide +kernel)
theorem vX12_keepRow : ZMV mX12_keepRow 0 := zMv_of (p1 := 9013) (p2 := 1013) (p3 := 9012) (p4 := 125) bX12_keepRow (by decide +kernel)
theorem vX12_startRow : ZMV mX12_startRow 0 := zMv_of (p1 := 9009) (p2 := 1013) (p3 := 9008) (p4 := 124) bX12_startRow (by decide +kernel)
theorem vX12_push : ZMV mX12_push 4 := zMv_of (p1 := 9025) (p2 := 1013) (p3 := 9024) (p4 := 128) bX12_push (by decide +kernel)
theorem vX12_reduceBy : ZMV mX12_reduceBy 4 := zMv_of (p1 := 9021) (p2 := 1013) (p3 := 9020) (p4 := 127) bX12_reduceBy (by decide +kernel)
theorem vX12_actOnce : ZMV mX12_actOnce 3 := zMv_of (p1 := 9017) (p2 := 1013) (p3 := 9016) (p4 := 126) bX12_actOnce (by decide +kernel)
theorem vX12_readAll : ZMV mX12_readAll 2 := zMv_of (p1 := 9005) (p2 := 1013) (p3 := 9004) (p4 := 123) bX12_readAll (by decide +kernel)
theorem vX12_laySentence : ZMV mX12_laySentence 1 := zMv_of (p1 := 9001) (p2 := 1013) (p3 := 9000) (p4 := 122) bX12_laySentence (by decide +kernel)
theorem vX12_canRead : ZMV mX12_canRead 2 := zMv_of (p1 := 8237) (p2 := 1013) (p3 := 8236) (p4 := 121) bX12_canRead (by decide +kernel)
theorem vX12_reads : ZMV mX12_reads 4 := zMv_of (p1 := 8233) (p2 := 1013) (p3 := 8231) (p4 := 8232) bX12_reads (by decide +kernel)
theorem vX12_reduced : ZMV mX12_reduced 4 := zMv_of (p1 := 9029) (p2 := 1013) (p3 := 9027) (p4 := 9028) bX12_reduced (by decide +kernel)
theorem vX12_doesExpect : ZMV mX12_doesExpect 2 := zMv_of (p1 := 9037) (p2 := 1013) (p3 := 9036) (p4 := 129) bX12_doesExpect (by decide +kernel)
theorem vX12_expects : ZMV mX12_expects 2 := zMv_of (p1 := 9033) (p2 := 1013) (p3 := 9031) (p4 := 9032) bX12_expects (by decide +kernel)
theorem vX12_layMended : ZMV mX12_layMended 3 := zMv_of (p1 := 9049) (p2 := 1013) (p3 := 9048) (p4 := 131) bX12_layMended (by decide +kernel)
theorem vX12_doesMend : ZMV mX12_doesMend 4 := zMv_of (p1 := 9045) (p2 := 1013) (p3 := 9044) (p4 := 130) bX12_doesMend (by decide +kernel)
theorem vX12_mends : ZMV mX12_mends 2 := zMv_of (p1 := 9041) (p2 := 1013) (p3 := 9039) (p4 := 9040) bX12_mends (by decide +kernel)
theorem vX12_tree : ZMV mX12_tree 4 := zMv_of (p1 := 9053) (p2 := 1013) (p3 := 9051) (p4 := 9052) bX12_tree (by decide +kernel)
theorem vX12_selects : ZMV mX12_selects 1 := zMv_of (p1 := 9065) (p2 := 1013) (p3 := 9064) (p4 := 133) bX12_selects (by decide +kernel)
theorem vX12_isTopDown : ZMV mX12_isTopDown 0 := zMv_of (p1 := 9061) (p2 := 1013) (p3 := 9060) (p4 := 132) bX12_isTopDown (by decide +kernel)
theorem vX12_waysSimply : ZMV mX12_waysSimply 2 := zMv_of (p1 := 9073) (p2 := 1013) (p3 := 9072) (p4 := 135) bX12_waysSimply (by decide +kernel)
theorem vX12_isSimple : ZMV mX12_isSimple 0 := zMv_of (p1 := 9069) (p2 := 1013) (p3 := 9068) (p4 := 134) bX12_isSimple (by decide +kernel)
theorem vX12_isClear : ZMV mX12_isClear 1 := zMv_of (p1 := 9077) (p2 := 1013) (p3 := 9076) (p4 := 136) bX12_isClear (by decide +kernel)
theorem vX12_sorts : ZMV mX12_sorts 0 := zMv_of (p1 := 9057) (p2 := 1013) (p3 := 9055) (p4 := 9056) bX12_sorts (by decide +kernel)
theorem vX12_isWell : ZMV mX12_isWell 3 := zMv_of (p1 := 9086) (p2 := 1013) (p3 := 9085) (p4 := 137) bX12_isWell (by decide +kernel)
theorem vX12_same : ZMV mX12_same 3 := zMv_of (p1 := 9082) (p2 := 1013) (p3 := 9080) (p4 := 9081) bX12_same (by decide +kernel)
theorem vX12_laySigns : ZMV mX12_laySigns 2 := zMv_of (p1 := 9090) (p2 := 1013) (p3 := 9089) (p4 := 138) bX12_laySigns (by decide +kernel)
theorem vX12_codeOf : ZMV mX12_codeOf 1 := zMv_of (p1 := 9094) (p2 := 1013) (p3 := 9093) (p4 := 139) bX12_codeOf (by decide +kernel)
theorem vX12_draw : ZMV mX12_draw 1 := zMv_of (p1 := 9110) (p2 := 1013) (p3 := 9109) (p4 := 142) bX12_draw (by decide +kernel)
theorem vX12_replacing : ZMV mX12_replacing 2 := zMv_of (p1 := 9106) (p2 := 1013) (p3 := 9105) (p4 := 141) bX12_replacing (by decide +kernel)
theorem vX12_leftmost : ZMV mX12_leftmost 0 := zMv_of (p1 := 9120) (p2 := 1013) (p3 := 9119) (p4 := 144) bX12_leftmost (by decide +kernel)
theorem vX12_replace : ZMV mX12_replace 2 := zMv_of (p1 := 9116) (p2 := 1013) (p3 := 9115) (p4 := 143) bX12_replace (by decide +kernel)
theorem vX12_layWord : ZMV mX12_layWord 1 := zMv_of (p1 := 9102) (p2 := 1013) (p3 := 9101) (p4 := 140) bX12_layWord (by decide +kernel)
theorem vX12_word : ZMV mX12_word 2 := zMv_of (p1 := 9098) (p2 := 1013) (p3 := 9096) (p4 := 9097) bX12_word (by decide +kernel)
theorem vX12_keep : ZMV mX12_keep 1 := zMv_of (p1 := 9124) (p2 := 1013) (p3 := 9122) (p4 := 9123) bX12_keep (by decide +kernel)
theorem vX12_inMany : ZMV mX12_inMany 0 := zMv_of (p1 := 9132) (p2 := 1013) (p3 := 9131) (p4 := 145) bX12_inMany (by decide +kernel)
theorem vX12_image : ZMV mX12_image 0 := zMv_of (p1 := 9128) (p2 := 1013) (p3 := 9126) (p4 := 9127) bX12_image (by decide +kernel)
theorem vX12_back : ZMV mX12_back 0 := zMv_of (p1 := 9136) (p2 := 1013) (p3 := 9134) (p4 := 9135) bX12_back (by decide +kernel)
theorem vX12_count : ZMV mX12_count 1 := zMv_of (p1 := 9140) (p2 := 1013) (p3 := 9138) (p4 := 9139) bX12_count (by decide +kernel)
theorem vJ6_bitCount_0f7a4 : ZMT mJ6_bitCount_0f7a4 1 := zMt_of (p1 := 3066) (p2 := 1014) (p3 := 3065) bJ6_bitCount_0f7a4 (by decide +kernel)
theorem k12_163 : Cond.methodLink RX12 163 yX12_byteOf ∈ zT := zT_at 7115 (by decide +kernel) rfl
theorem k12_170 : Cond.methodLink RX12 170 yX12_in ∈ zT := zT_at 7122 (by decide +kernel) rfl
theorem k12_180 : Cond.methodLink RX12 180 yX12_ahead ∈ zT := zT_at 7137 (by decide +kernel) rfl
theorem k12_184 : Cond.methodLink RX12 184 yX12_isName ∈ zT := zT_at 7141 (by decide +kernel) rfl
theorem k12_191 : Cond.methodLink RX12 191 yX12_isSign ∈ zT := zT_at 7149 (by decide +kernel) rfl
theorem k12_197 : Cond.methodLink RX12 197 yJ6_bitCount_0f7a4 ∈ zT := zT_at 7144 (by decide +kernel) rfl
theorem k12_203 : Cond.methodLink RX12 203 yX12_bad ∈ zT := zT_at 7145 (by decide +kernel) rfl
theorem k12_212 : Cond.methodLink RX12 212 yX12_takeLetter ∈ zT := zT_at 7152 (by decide +kernel) rfl
theorem k12_216 : Cond.methodLink RX12 216 yX12_readRule ∈ zT := zT_at 7133 (by decide +kernel) rfl
theorem k12_219 : Cond.methodLink RX12 219 yX12_readGrammar ∈ zT := zT_at 7129 (by decide +kernel) rfl
theorem k12_222 : Cond.methodLink RX12 222 yX12_readSentence ∈ zT := zT_at 7156 (by decide +kernel) rfl
theorem k12_234 : Cond.methodLink RX12 234 yX12_nameOf ∈ zT := zT_at 7168 (by decide +kernel) rfl
theorem k12_237 : Cond.methodLink RX12 237 yX12_has ∈ zT := zT_at 7172 (by decide +kernel) rfl
theorem k12_241 : Cond.methodLink RX12 241 yX12_signOf ∈ zT := zT_at 7175 (by decide +kernel) rfl
theorem k12_257 : Cond.methodLink RX12 257 yX12_changed ∈ zT := zT_at 7179 (by decide +kernel) rfl
theorem k12_260 : Cond.methodLink RX12 260 yX12_takeGrammar ∈ zT := zT_at 7164 (by decide +kernel) rfl
theorem k12_266 : Cond.methodLink RX12 266 yX12_isRule ∈ zT := zT_at 7187 (by decide +kernel) rfl
theorem k12_269 : Cond.methodLink RX12 269 yX12_isIn ∈ zT := zT_at 7191 (by decide +kernel) rfl
theorem k12_272 : Cond.methodLink RX12 272 yX12_isUnit ∈ zT := zT_at 7195 (by decide +kernel) rfl
theorem k12_275 : Cond.methodLink RX12 275 yX12_letterAt ∈ zT := zT_at 7199 (by decide +kernel) rfl
theorem k12_285 : Cond.methodLink RX12 285 yX12_isEmptyLetter ∈ zT := zT_at 7232 (by decide +kernel) rfl
theorem k12_289 : Cond.methodLink RX12 289 Lib.Math.min.name ∈ zT ∧ Cond.static Lib.Math.min.name ∈ zT ∧ Cond.initialized "java/lang/Math" ∈ zT ∧ Cond.code Lib.Math.min.name Lib.Math.min.code 2 (some .int) ∈ zT := ⟨zT_at 8004 (by decide +kernel) rfl, zT_at 5217 (by decide +kernel) rfl, zT_at 1020 (by decide +kernel) rfl, zT_at 5218 (by decide +kernel) rfl⟩
theorem k12_294 : Cond.methodLink RX12 294 yX12_isEmptyFrom ∈ zT := zT_at 7228 (by decide +kernel) rfl
theorem k12_297 : Cond.methodLink RX12 297 yX12_firstFrom ∈ zT := zT_at 7236 (by decide +kernel) rfl
theorem k12_300 : Cond.methodLink RX12 300 yX12_shortestOf ∈ zT := zT_at 8000 (by decide +kernel) rfl
theorem k12_303 : Cond.methodLink RX12 303 yX12_layOnce ∈ zT := zT_at 7224 (by decide +kernel) rfl
theorem k12_307 : Cond.methodLink RX12 307 yX12_layFollowOnce ∈ zT := zT_at 8005 (by decide +kernel) rfl
theorem k12_310 : Cond.methodLink RX12 310 yX12_isNamed ∈ zT := zT_at 7215 (by decide +kernel) rfl
theorem k12_313 : Cond.methodLink RX12 313 yX12_laySets ∈ zT := zT_at 7219 (by decide +kernel) rfl
theorem k12_318 : Cond.methodLink RX12 318 Lib.MathLoose.min_long.x ∈ zT ∧ Cond.static Lib.MathLoose.min_long.x ∈ zT ∧ Cond.initialized "java/lang/Math" ∈ zT ∧ Cond.code Lib.MathLoose.min_long.x Lib.MathLoose.min_long.code 4 (some .long) ∈ zT := ⟨zT_at 8025 (by decide +kernel) rfl, zT_at 4037 (by decide +kernel) rfl, zT_at 1020 (by decide +kernel) rfl, zT_at 4038 (by decide +kernel) rfl⟩
theorem k12_321 : Cond.methodLink RX12 321 yX12_treesAt ∈ zT := zT_at 8017 (by decide +kernel) rfl
theorem k12_325 : Cond.methodLink RX12 325 yX12_heldTrees ∈ zT := zT_at 8021 (by decide +kernel) rfl
theorem k12_329 : Cond.methodLink RX12 329 yX12_addTrees ∈ zT := zT_at 8013 (by decide +kernel) rfl
theorem k12_333 : Cond.methodLink RX12 333 yX12_layReaches ∈ zT := zT_at 8034 (by decide +kernel) rfl
theorem k12_337 : Cond.methodLink RX12 337 yX12_leftOnes ∈ zT := zT_at 8030 (by decide +kernel) rfl
theorem k12_340 : Cond.methodLink RX12 340 yX12_usefulOnes ∈ zT := zT_at 8038 (by decide +kernel) rfl
theorem k12_343 : Cond.methodLink RX12 343 yX12_endingOnes ∈ zT := zT_at 8042 (by decide +kernel) rfl
theorem k12_346 : Cond.methodLink RX12 346 yX12_putBy ∈ zT := zT_at 8050 (by decide +kernel) rfl
theorem k12_349 : Cond.methodLink RX12 349 yX12_become ∈ zT := zT_at 8054 (by decide +kernel) rfl
theorem k12_352 : Cond.methodLink RX12 352 yX12_rowOf ∈ zT := zT_at 8085 (by decide +kernel) rfl
theorem k12_355 : Cond.methodLink RX12 355 yX12_letterBehind ∈ zT := zT_at 8104 (by decide +kernel) rfl
theorem k12_358 : Cond.methodLink RX12 358 yX12_itemAt ∈ zT := zT_at 8078 (by decide +kernel) rfl
theorem k12_361 : Cond.methodLink RX12 361 yX12_byOf ∈ zT := zT_at 8112 (by decide +kernel) rfl
theorem k12_364 : Cond.methodLink RX12 364 yX12_isNext ∈ zT := zT_at 8128 (by decide +kernel) rfl
theorem k12_368 : Cond.methodLink RX12 368 yX12_isWeakly ∈ zT := zT_at 8132 (by decide +kernel) rfl
theorem k12_371 : Cond.methodLink RX12 371 yX12_doesTake ∈ zT := zT_at 8124 (by decide +kernel) rfl
theorem k12_377 : Cond.methodLink RX12 377 yX12_enqueue ∈ zT := zT_at 8088 (by decide +kernel) rfl
theorem k12_380 : Cond.methodLink RX12 380 yX12_layClosure ∈ zT := zT_at 8100 (by decide +kernel) rfl
theorem k12_383 : Cond.methodLink RX12 383 yX12_layNext ∈ zT := zT_at 8108 (by decide +kernel) rfl
theorem k12_386 : Cond.methodLink RX12 386 yX12_goesBy ∈ zT := zT_at 8116 (by decide +kernel) rfl
theorem k12_389 : Cond.methodLink RX12 389 yX12_takerOf ∈ zT := zT_at 8120 (by decide +kernel) rfl
theorem k12_392 : Cond.methodLink RX12 392 yX12_newState ∈ zT := zT_at 8081 (by decide +kernel) rfl
theorem k12_395 : Cond.methodLink RX12 395 yX12_addLooks ∈ zT := zT_at 8136 (by decide +kernel) rfl
theorem k12_398 : Cond.methodLink RX12 398 yX12_canReduce ∈ zT := zT_at 8148 (by decide +kernel) rfl
theorem k12_402 : Cond.methodLink RX12 402 yX12_plainAction ∈ zT := zT_at 8156 (by decide +kernel) rfl
theorem k12_405 : Cond.methodLink RX12 405 yX12_layAutomaton ∈ zT := zT_at 8074 (by decide +kernel) rfl
theorem k12_408 : Cond.methodLink RX12 408 yX12_dequeue ∈ zT := zT_at 8092 (by decide +kernel) rfl
theorem k12_411 : Cond.methodLink RX12 411 yX12_goThrough ∈ zT := zT_at 8096 (by decide +kernel) rfl
theorem k12_414 : Cond.methodLink RX12 414 yX12_numberAnew ∈ zT := zT_at 8140 (by decide +kernel) rfl
theorem k12_417 : Cond.methodLink RX12 417 yX12_layAction ∈ zT := zT_at 8144 (by decide +kernel) rfl
theorem k12_421 : Cond.methodLink RX12 421 yX12_defaultOf ∈ zT := zT_at 8152 (by decide +kernel) rfl
theorem k12_424 : Cond.methodLink RX12 424 yX12_isThere ∈ zT := zT_at 8070 (by decide +kernel) rfl
theorem k12_427 : Cond.methodLink RX12 427 yX12_isState ∈ zT := zT_at 8164 (by decide +kernel) rfl
theorem k12_430 : Cond.methodLink RX12 430 yX12_itemMany ∈ zT := zT_at 8172 (by decide +kernel) rfl
theorem k12_434 : Cond.methodLink RX12 434 yX12_byMany ∈ zT := zT_at 8176 (by decide +kernel) rfl
theorem k12_437 : Cond.methodLink RX12 437 yX12_layPath ∈ zT := zT_at 8180 (by decide +kernel) rfl
theorem k12_440 : Cond.methodLink RX12 440 yX12_isLetter ∈ zT := zT_at 8188 (by decide +kernel) rfl
theorem k12_443 : Cond.methodLink RX12 443 yX12_actionOf ∈ zT := zT_at 8196 (by decide +kernel) rfl
theorem k12_448 : Cond.methodLink RX12 448 yX12_bridgeOf ∈ zT := zT_at 8205 (by decide +kernel) rfl
theorem k12_452 : Cond.methodLink RX12 452 yX12_isSameCore ∈ zT := zT_at 8221 (by decide +kernel) rfl
theorem k12_455 : Cond.methodLink RX12 455 yX12_coreMany ∈ zT := zT_at 8217 (by decide +kernel) rfl
theorem k12_458 : Cond.methodLink RX12 458 Lib.Math.max.name ∈ zT ∧ Cond.static Lib.Math.max.name ∈ zT ∧ Cond.initialized "java/lang/Math" ∈ zT ∧ Cond.code Lib.Math.max.name Lib.Math.max.code 2 (some .int) ∈ zT := ⟨zT_at 8225 (by decide +kernel) rfl, zT_at 5092 (by decide +kernel) rfl, zT_at 1020 (by decide +kernel) rfl, zT_at 5093 (by decide +kernel) rfl⟩
theorem k12_461 : Cond.methodLink RX12 461 yX12_countOf ∈ zT := zT_at 8226 (by decide +kernel) rfl
theorem k12_479 : Cond.methodLink RX12 479 yX12_keepRow ∈ zT := zT_at 9010 (by decide +kernel) rfl
theorem k12_482 : Cond.methodLink RX12 482 yX12_push ∈ zT := zT_at 9022 (by decide +kernel) rfl
theorem k12_485 : Cond.methodLink RX12 485 yX12_reduceBy ∈ zT := zT_at 9018 (by decide +kernel) rfl
theorem k12_488 : Cond.methodLink RX12 488 yX12_startRow ∈ zT := zT_at 9006 (by decide +kernel) rfl
theorem k12_494 : Cond.methodLink RX12 494 yX12_actOnce ∈ zT := zT_at 9014 (by decide +kernel) rfl
theorem k12_497 : Cond.methodLink RX12 497 yX12_canRead ∈ zT := zT_at 8234 (by decide +kernel) rfl
theorem k12_500 : Cond.methodLink RX12 500 yX12_laySentence ∈ zT := zT_at 8238 (by decide +kernel) rfl
theorem k12_503 : Cond.methodLink RX12 503 yX12_readAll ∈ zT := zT_at 9002 (by decide +kernel) rfl
theorem k12_506 : Cond.methodLink RX12 506 yX12_doesExpect ∈ zT := zT_at 9034 (by decide +kernel) rfl
theorem k12_509 : Cond.methodLink RX12 509 yX12_layMended ∈ zT := zT_at 9046 (by decide +kernel) rfl
theorem k12_512 : Cond.methodLink RX12 512 yX12_doesMend ∈ zT := zT_at 9042 (by decide +kernel) rfl
theorem k12_515 : Cond.methodLink RX12 515 yX12_selects ∈ zT := zT_at 9062 (by decide +kernel) rfl
theorem k12_518 : Cond.methodLink RX12 518 yX12_waysSimply ∈ zT := zT_at 9070 (by decide +kernel) rfl
theorem k12_521 : Cond.methodLink RX12 521 yX12_counts ∈ zT := zT_at 9078 (by decide +kernel) rfl
theorem k12_524 : Cond.methodLink RX12 524 yX12_isTopDown ∈ zT := zT_at 9058 (by decide +kernel) rfl
theorem k12_527 : Cond.methodLink RX12 527 yX12_isSimple ∈ zT := zT_at 9066 (by decide +kernel) rfl
theorem k12_530 : Cond.methodLink RX12 530 yX12_isClear ∈ zT := zT_at 9074 (by decide +kernel) rfl
theorem k12_533 : Cond.methodLink RX12 533 yX12_laySigns ∈ zT := zT_at 9087 (by decide +kernel) rfl
theorem k12_536 : Cond.methodLink RX12 536 yX12_isWell ∈ zT := zT_at 9083 (by decide +kernel) rfl
theorem k12_539 : Cond.methodLink RX12 539 yX12_codeOf ∈ zT := zT_at 9091 (by decide +kernel) rfl
theorem k12_550 : Cond.methodLink RX12 550 yX12_draw ∈ zT := zT_at 9107 (by decide +kernel) rfl
theorem k12_556 : Cond.methodLink RX12 556 yX12_replacing ∈ zT := zT_at 9103 (by decide +kernel) rfl
theorem k12_560 : Cond.methodLink RX12 560 yX12_replace ∈ zT := zT_at 9113 (by decide +kernel) rfl
theorem k12_563 : Cond.methodLink RX12 563 yX12_leftmost ∈ zT := zT_at 9117 (by decide +kernel) rfl
theorem k12_566 : Cond.methodLink RX12 566 yX12_layWord ∈ zT := zT_at 9099 (by decide +kernel) rfl
theorem k12_576 : Cond.methodLink RX12 576 yX12_inMany ∈ zT := zT_at 9129 (by decide +kernel) rfl
