theorem kV_y_M_meet : Cond.selects R_M y_M_meet y_M_meet ∈ TBL := tbl_in (List.mem_append_left _ (List.mem_of_getElem? (i := 0) (by rfl))) rfl
theorem kV_y_M_haveSameEnds : Cond.selects R_M y_M_haveSameEnds y_M_haveSameEnds ∈ TBL := tbl_in (List.mem_append_left _ (List.mem_of_getElem? (i := 1) (by rfl))) rfl
theorem kV_y_M_sameTail : Cond.selects R_M y_M_sameTail y_M_sameTail ∈ TBL := tbl_in (List.mem_append_left _ (List.mem_of_getElem? (i := 2) (by rfl))) rfl
theorem kV_y_M_holdsAnEndOf : Cond.selects R_M y_M_holdsAnEndOf y_M_holdsAnEndOf ∈ TBL := tbl_in (List.mem_append_left _ (List.mem_of_getElem? (i := 3) (by rfl))) rfl
theorem kV_y_M_isInside : Cond.selects R_M y_M_isInside y_M_isInside ∈ TBL := tbl_in (List.mem_append_left _ (List.mem_of_getElem? (i := 4) (by rfl))) rfl
theorem kV_y_M_leftness : Cond.selects R_M y_M_leftness y_M_leftness ∈ TBL := tbl_in (List.mem_append_left _ (List.mem_of_getElem? (i := 5) (by rfl))) rfl
theorem kV_y_M_partsTheEndsOf : Cond.selects R_M y_M_partsTheEndsOf y_M_partsTheEndsOf ∈ TBL := tbl_in (List.mem_append_left _ (List.mem_of_getElem? (i := 6) (by rfl))) rfl
theorem kV_y_A_regroup : Cond.selects R_A y_A_regroup y_A_regroup ∈ TBL := tbl_in (List.mem_append_left _ (List.mem_of_getElem? (i := 7) (by rfl))) rfl
theorem kV_y_A_joinWithNextAroundTail : Cond.selects R_A y_A_joinWithNextAroundTail y_A_joinWithNextAroundTail ∈ TBL := tbl_in (List.mem_append_left _ (List.mem_of_getElem? (i := 8) (by rfl))) rfl
theorem kV_y_M_comesSooner : Cond.selects R_M y_M_comesSooner y_M_comesSooner ∈ TBL := tbl_in (List.mem_append_left _ (List.mem_of_getElem? (i := 9) (by rfl))) rfl
theorem kV_y_A_joinWithWhatIsAbove : Cond.selects R_A y_A_joinWithWhatIsAbove y_A_joinWithWhatIsAbove ∈ TBL := tbl_in (List.mem_append_left _ (List.mem_of_getElem? (i := 10) (by rfl))) rfl
theorem kV_y_A_sideSeenFrom : Cond.selects R_A y_A_sideSeenFrom y_A_sideSeenFrom ∈ TBL := tbl_in (List.mem_append_left _ (List.mem_of_getElem? (i := 11) (by rfl))) rfl
theorem kV_y_R_meet : Cond.selects R_R y_R_meet y_R_meet ∈ TBL := tbl_in (List.mem_append_left _ (List.mem_of_getElem? (i := 12) (by rfl))) rfl
theorem kV_y_R_isInside : Cond.selects R_R y_R_isInside y_R_isInside ∈ TBL := tbl_in (List.mem_append_left _ (List.mem_of_getElem? (i := 13) (by rfl))) rfl
theorem kV_y_R_side : Cond.selects R_R y_R_side y_R_side ∈ TBL := tbl_in (List.mem_append_left _ (List.mem_of_getElem? (i := 14) (by rfl))) rfl
theorem kV_y_R_isEnd : Cond.selects R_R y_R_isEnd y_R_isEnd ∈ TBL := tbl_in (List.mem_append_left _ (List.mem_of_getElem? (i := 15) (by rfl))) rfl
theorem kV_y_R_isSegment : Cond.selects R_R y_R_isSegment y_R_isSegment ∈ TBL := tbl_in (List.mem_append_left _ (List.mem_of_getElem? (i := 16) (by rfl))) rfl
theorem kV_y_R_firstAt : Cond.selects R_R y_R_firstAt y_R_firstAt ∈ TBL := tbl_in (List.mem_append_left _ (List.mem_of_getElem? (i := 17) (by rfl))) rfl
theorem kV_y_R_partOf : Cond.selects R_R y_R_partOf y_R_partOf ∈ TBL := tbl_in (List.mem_append_left _ (List.mem_of_getElem? (i := 18) (by rfl))) rfl
theorem kV_y_R_touch : Cond.selects R_R y_R_touch y_R_touch ∈ TBL := tbl_in (List.mem_append_left _ (List.mem_of_getElem? (i := 19) (by rfl))) rfl
theorem kV_y_R_look : Cond.selects R_R y_R_look y_R_look ∈ TBL := tbl_in (List.mem_append_left _ (List.mem_of_getElem? (i := 20) (by rfl))) rfl
theorem kV_y_R_addLine : Cond.selects R_R y_R_addLine y_R_addLine ∈ TBL := tbl_in (List.mem_append_left _ (List.mem_of_getElem? (i := 21) (by rfl))) rfl
theorem kV_y_R_fill : Cond.selects R_R y_R_fill y_R_fill ∈ TBL := tbl_in (List.mem_append_left _ (List.mem_of_getElem? (i := 22) (by rfl))) rfl
theorem kV_y_R_below : Cond.selects R_R y_R_below y_R_below ∈ TBL := tbl_in (List.mem_append_left _ (List.mem_of_getElem? (i := 23) (by rfl))) rfl
theorem kV_y_R_width : Cond.selects R_R y_R_width y_R_width ∈ TBL := tbl_in (List.mem_append_left _ (List.mem_of_getElem? (i := 24) (by rfl))) rfl
theorem kV_y_R_open : Cond.selects R_R y_R_open y_R_open ∈ TBL := tbl_in (List.mem_append_left _ (List.mem_of_getElem? (i := 25) (by rfl))) rfl
theorem kV_y_R_floorRise : Cond.selects R_R y_R_floorRise y_R_floorRise ∈ TBL := tbl_in (List.mem_append_left _ (List.mem_of_getElem? (i := 26) (by rfl))) rfl
theorem kV_y_R_rise : Cond.selects R_R y_R_rise y_R_rise ∈ TBL := tbl_in (List.mem_append_left _ (List.mem_of_getElem? (i := 27) (by rfl))) rfl
theorem kV_y_R_floorWidth : Cond.selects R_R y_R_floorWidth y_R_floorWidth ∈ TBL := tbl_in (List.mem_append_left _ (List.mem_of_getElem? (i := 28) (by rfl))) rfl
theorem kV_y_R_roofRise : Cond.selects R_R y_R_roofRise y_R_roofRise ∈ TBL := tbl_in (List.mem_append_left _ (List.mem_of_getElem? (i := 29) (by rfl))) rfl
theorem kV_y_R_roofWidth : Cond.selects R_R y_R_roofWidth y_R_roofWidth ∈ TBL := tbl_in (List.mem_append_left _ (List.mem_of_getElem? (i := 30) (by rfl))) rfl
theorem kV_y_R_isUpright : Cond.selects R_R y_R_isUpright y_R_isUpright ∈ TBL := tbl_in (List.mem_append_left _ (List.mem_of_getElem? (i := 31) (by rfl))) rfl
theorem kV_y_R_face : Cond.selects R_R y_R_face y_R_face ∈ TBL := tbl_in (List.mem_append_left _ (List.mem_of_getElem? (i := 32) (by rfl))) rfl
theorem kV_y_R_endings : Cond.selects R_R y_R_endings y_R_endings ∈ TBL := tbl_in (List.mem_append_left _ (List.mem_of_getElem? (i := 33) (by rfl))) rfl
theorem kV_y_R_isFree : Cond.selects R_R y_R_isFree y_R_isFree ∈ TBL := tbl_in (List.mem_append_left _ (List.mem_of_getElem? (i := 34) (by rfl))) rfl
theorem kV_y_R_faceAt : Cond.selects R_R y_R_faceAt y_R_faceAt ∈ TBL := tbl_in (List.mem_append_left _ (List.mem_of_getElem? (i := 35) (by rfl))) rfl
theorem kV_y_R_cellAt : Cond.selects R_R y_R_cellAt y_R_cellAt ∈ TBL := tbl_in (List.mem_append_left _ (List.mem_of_getElem? (i := 36) (by rfl))) rfl
theorem kV_y_R_refusal : Cond.selects R_R y_R_refusal y_R_refusal ∈ TBL := tbl_in (List.mem_append_left _ (List.mem_of_getElem? (i := 37) (by rfl))) rfl
theorem kV_y_R_faceBy : Cond.selects R_R y_R_faceBy y_R_faceBy ∈ TBL := tbl_in (List.mem_append_left _ (List.mem_of_getElem? (i := 38) (by rfl))) rfl
theorem kV_y_R_sides : Cond.selects R_R y_R_sides y_R_sides ∈ TBL := tbl_in (List.mem_append_left _ (List.mem_of_getElem? (i := 39) (by rfl))) rfl
theorem kI_L : Cond.initialized R_L ∈ TBL := tbl_in (List.mem_append_right _ (List.mem_append_left _ (List.mem_of_getElem? (i := 0) (by rfl)))) rfl
theorem kI_A : Cond.initialized R_A ∈ TBL := tbl_in (List.mem_append_right _ (List.mem_append_left _ (List.mem_of_getElem? (i := 1) (by rfl)))) rfl
theorem kI_M : Cond.initialized R_M ∈ TBL := tbl_in (List.mem_append_right _ (List.mem_append_left _ (List.mem_of_getElem? (i := 2) (by rfl)))) rfl
theorem kI_G : Cond.initialized R_G ∈ TBL := tbl_in (List.mem_append_right _ (List.mem_append_left _ (List.mem_of_getElem? (i := 3) (by rfl)))) rfl
theorem kI_R : Cond.initialized R_R ∈ TBL := tbl_in (List.mem_append_right _ (List.mem_append_left _ (List.mem_of_getElem? (i := 4) (by rfl)))) rfl
theorem kI_java_lang_Math : Cond.initialized "java/lang/Math" ∈ TBL := tbl_in (List.mem_append_right _ (List.mem_append_left _ (List.mem_of_getElem? (i := 5) (by rfl)))) rfl
theorem kC_L_7 : Cond.classLink R_L 7 R_A ∈ TBL := tbl_in (List.mem_append_right _ (List.mem_append_left _ (List.mem_of_getElem? (i := 6) (by rfl)))) rfl
theorem kN_A : Cond.instantiable R_A 3 ∈ TBL := tbl_in (List.mem_append_right _ (List.mem_append_left _ (List.mem_of_getElem? (i := 7) (by rfl)))) rfl
theorem kL_L_9 : Cond.methodLink R_L 9 y_A_init ∈ TBL := tbl_in (List.mem_append_right _ (List.mem_append_left _ (List.mem_of_getElem? (i := 8) (by rfl)))) rfl
theorem kM_y_A_init : Cond.instanceMethod y_A_init ∈ TBL := tbl_in (List.mem_append_right _ (List.mem_append_left _ (List.mem_of_getElem? (i := 9) (by rfl)))) rfl
theorem kY_y_A_init : Cond.code y_A_init b_A_init 1 none ∈ TBL := tbl_in (List.mem_append_right _ (List.mem_append_left _ (List.mem_of_getElem? (i := 10) (by rfl)))) rfl
theorem kL_A_3 : Cond.methodLink R_A 3 objectInit ∈ TBL := tbl_in (List.mem_append_right _ (List.mem_append_left _ (List.mem_of_getElem? (i := 11) (by rfl)))) rfl
theorem kM_objectInit : Cond.instanceMethod objectInit ∈ TBL := tbl_in (List.mem_append_right _ (List.mem_append_left _ (List.mem_of_getElem? (i := 12) (by rfl)))) rfl
theorem kY_objectInit : Cond.code objectInit ⟨#[0xb1]⟩ 1 none ∈ TBL := tbl_in (List.mem_append_right _ (List.mem_append_left _ (List.mem_of_getElem? (i := 13) (by rfl)))) rfl
theorem kC_A_9 : Cond.classLink R_A 9 R_M ∈ TBL := tbl_in (List.mem_append_right _ (List.mem_append_left _ (List.mem_of_getElem? (i := 14) (by rfl)))) rfl
theorem kN_M : Cond.instantiable R_M 3 ∈ TBL := tbl_in (List.mem_append_right _ (List.mem_append_left _ (List.mem_of_getElem? (i := 15) (by rfl)))) rfl
theorem kLN_A_11 : Cond.methodLinkNest R_A 11 y_M_init R_A ∈ lw_tbl := List.mem_append_right _ (List.mem_append_left _ (List.mem_of_getElem? (i := 16) (by rfl)))
theorem kM_y_M_init : Cond.instanceMethod y_M_init ∈ TBL := tbl_in (List.mem_append_right _ (List.mem_append_left _ (List.mem_of_getElem? (i := 17) (by rfl)))) rfl
theorem kY_y_M_init : Cond.code y_M_init b_M_init 1 none ∈ TBL := tbl_in (List.mem_append_right _ (List.mem_append_left _ (List.mem_of_getElem? (i := 18) (by rfl)))) rfl
theorem kL_M_3 : Cond.methodLink R_M 3 objectInit ∈ TBL := tbl_in (List.mem_append_right _ (List.mem_append_left _ (List.mem_of_getElem? (i := 19) (by rfl)))) rfl
theorem kF_M_9 : Cond.fieldLink R_M 9 R_M "used" "[Z" ∈ TBL := tbl_in (List.mem_append_right _ (List.mem_append_left _ (List.mem_of_getElem? (i := 20) (by rfl)))) rfl
theorem kF_M_15 : Cond.fieldLink R_M 15 R_M "xs" "[I" ∈ TBL := tbl_in (List.mem_append_right _ (List.mem_append_left _ (List.mem_of_getElem? (i := 21) (by rfl)))) rfl
theorem kF_M_19 : Cond.fieldLink R_M 19 R_M "ys" "[I" ∈ TBL := tbl_in (List.mem_append_right _ (List.mem_append_left _ (List.mem_of_getElem? (i := 22) (by rfl)))) rfl
theorem kA_boolean : Cond.arrayClass .boolean ∈ TBL := tbl_in (List.mem_append_right _ (List.mem_append_left _ (List.mem_of_getElem? (i := 30) (by rfl)))) rfl
theorem kA_int : Cond.arrayClass .int ∈ TBL := tbl_in (List.mem_append_right _ (List.mem_append_left _ (List.mem_of_getElem? (i := 31) (by rfl)))) rfl
theorem kC_A_16 : Cond.classLink R_A 16 R_G ∈ TBL := tbl_in (List.mem_append_right _ (List.mem_append_left _ (List.mem_of_getElem? (i := 32) (by rfl)))) rfl
theorem kN_G : Cond.instantiable R_G 1 ∈ TBL := tbl_in (List.mem_append_right _ (List.mem_append_left _ (List.mem_of_getElem? (i := 33) (by rfl)))) rfl
theorem kL_A_18 : Cond.methodLink R_A 18 y_G_init ∈ TBL := tbl_in (List.mem_append_right _ (List.mem_append_left _ (List.mem_of_getElem? (i := 34) (by rfl)))) rfl
theorem kM_y_G_init : Cond.instanceMethod y_G_init ∈ TBL := tbl_in (List.mem_append_right _ (List.mem_append_left _ (List.mem_of_getElem? (i := 35) (by rfl)))) rfl
theorem kY_y_G_init : Cond.code y_G_init b_G_init 2 none ∈ TBL := tbl_in (List.mem_append_right _ (List.mem_append_left _ (List.mem_of_getElem? (i := 36) (by rfl)))) rfl
theorem kL_G_1 : Cond.methodLink R_G 1 objectInit ∈ TBL := tbl_in (List.mem_append_right _ (List.mem_append_left _ (List.mem_of_getElem? (i := 37) (by rfl)))) rfl
theorem kL_G_13 : Cond.methodLink R_G 13 y_G_scatter ∈ TBL := tbl_in (List.mem_append_right _ (List.mem_append_left _ (List.mem_of_getElem? (i := 38) (by rfl)))) rfl
theorem kM_y_G_scatter : Cond.instanceMethod y_G_scatter ∈ TBL := tbl_in (List.mem_append_right _ (List.mem_append_left _ (List.mem_of_getElem? (i := 39) (by rfl)))) rfl
theorem kV_y_G_scatter : Cond.selects R_G y_G_scatter y_G_scatter ∈ TBL := tbl_in (List.mem_append_right _ (List.mem_append_left _ (List.mem_of_getElem? (i := 40) (by rfl)))) rfl
theorem kY_y_G_scatter : Cond.code y_G_scatter b_G_scatter 2 none ∈ TBL := tbl_in (List.mem_append_right _ (List.mem_append_left _ (List.mem_of_getElem? (i := 41) (by rfl)))) rfl
theorem kF_G_7 : Cond.fieldLink R_G 7 R_G "leaders" "[I" ∈ TBL := tbl_in (List.mem_append_right _ (List.mem_append_left _ (List.mem_of_getElem? (i := 42) (by rfl)))) rfl
theorem kF_A_12 : Cond.fieldLink R_A 12 R_A "map" "LFaceAtlas$SegmentMap;" ∈ TBL := tbl_in (List.mem_append_right _ (List.mem_append_left _ (List.mem_of_getElem? (i := 46) (by rfl)))) rfl
theorem kF_A_21 : Cond.fieldLink R_A 21 R_A "sidesByFace" "LFaceAtlas$Groups;" ∈ TBL := tbl_in (List.mem_append_right _ (List.mem_append_left _ (List.mem_of_getElem? (i := 47) (by rfl)))) rfl
theorem kF_A_25 : Cond.fieldLink R_A 25 R_A "segmentsByPart" "LFaceAtlas$Groups;" ∈ TBL := tbl_in (List.mem_append_right _ (List.mem_append_left _ (List.mem_of_getElem? (i := 48) (by rfl)))) rfl
theorem kL_L_13 : Cond.methodLink R_L 13 y_A_add ∈ TBL := tbl_in (List.mem_append_right _ (List.mem_append_left _ (List.mem_of_getElem? (i := 56) (by rfl)))) rfl
theorem kM_y_A_add : Cond.instanceMethod y_A_add ∈ TBL := tbl_in (List.mem_append_right _ (List.mem_append_left _ (List.mem_of_getElem? (i := 57) (by rfl)))) rfl
theorem kV_y_A_add : Cond.selects R_A y_A_add y_A_add ∈ TBL := tbl_in (List.mem_append_right _ (List.mem_append_left _ (List.mem_of_getElem? (i := 58) (by rfl)))) rfl
theorem kY_y_A_add : Cond.code y_A_add b_A_add 7 (some .int) ∈ TBL := tbl_in (List.mem_append_right _ (List.mem_append_left _ (List.mem_of_getElem? (i := 59) (by rfl)))) rfl
theorem kL_A_28 : Cond.methodLink R_A 28 y_A_isNearby ∈ TBL := tbl_in (List.mem_append_right _ (List.mem_append_left _ (List.mem_of_getElem? (i := 60) (by rfl)))) rfl
theorem kS_y_A_isNearby : Cond.static y_A_isNearby ∈ TBL := tbl_in (List.mem_append_right _ (List.mem_append_left _ (List.mem_of_getElem? (i := 61) (by rfl)))) rfl
theorem kY_y_A_isNearby : Cond.code y_A_isNearby b_A_isNearby 2 (some .boolean) ∈ TBL := tbl_in (List.mem_append_right _ (List.mem_append_left _ (List.mem_of_getElem? (i := 62) (by rfl)))) rfl
theorem kL_A_32 : Cond.methodLink R_A 32 y_M_leastUnusedNumber ∈ TBL := tbl_in (List.mem_append_right _ (List.mem_append_left _ (List.mem_of_getElem? (i := 63) (by rfl)))) rfl
theorem kM_y_M_leastUnusedNumber : Cond.instanceMethod y_M_leastUnusedNumber ∈ TBL := tbl_in (List.mem_append_right _ (List.mem_append_left _ (List.mem_of_getElem? (i := 64) (by rfl)))) rfl
theorem kV_y_M_leastUnusedNumber : Cond.selects R_M y_M_leastUnusedNumber y_M_leastUnusedNumber ∈ TBL := tbl_in (List.mem_append_right _ (List.mem_append_left _ (List.mem_of_getElem? (i := 65) (by rfl)))) rfl
theorem kY_y_M_leastUnusedNumber : Cond.code y_M_leastUnusedNumber b_M_leastUnusedNumber 2 (some .int) ∈ TBL := tbl_in (List.mem_append_right _ (List.mem_append_left _ (List.mem_of_getElem? (i := 66) (by rfl)))) rfl
theorem kL_A_36 : Cond.methodLink R_A 36 y_M_sketch ∈ TBL := tbl_in (List.mem_append_right _ (List.mem_append_left _ (List.mem_of_getElem? (i := 67) (by rfl)))) rfl
theorem kM_y_M_sketch : Cond.instanceMethod y_M_sketch ∈ TBL := tbl_in (List.mem_append_right _ (List.mem_append_left _ (List.mem_of_getElem? (i := 68) (by rfl)))) rfl
theorem kV_y_M_sketch : Cond.selects R_M y_M_sketch y_M_sketch ∈ TBL := tbl_in (List.mem_append_right _ (List.mem_append_left _ (List.mem_of_getElem? (i := 69) (by rfl)))) rfl
theorem kY_y_M_sketch : Cond.code y_M_sketch b_M_sketch 8 none ∈ TBL := tbl_in (List.mem_append_right _ (List.mem_append_left _ (List.mem_of_getElem? (i := 70) (by rfl)))) rfl
theorem kL_A_40 : Cond.methodLink R_A 40 y_M_leastMeeting ∈ TBL := tbl_in (List.mem_append_right _ (List.mem_append_left _ (List.mem_of_getElem? (i := 71) (by rfl)))) rfl
theorem kM_y_M_leastMeeting : Cond.instanceMethod y_M_leastMeeting ∈ TBL := tbl_in (List.mem_append_right _ (List.mem_append_left _ (List.mem_of_getElem? (i := 72) (by rfl)))) rfl
theorem kV_y_M_leastMeeting : Cond.selects R_M y_M_leastMeeting y_M_leastMeeting ∈ TBL := tbl_in (List.mem_append_right _ (List.mem_append_left _ (List.mem_of_getElem? (i := 73) (by rfl)))) rfl
theorem kY_y_M_leastMeeting : Cond.code y_M_leastMeeting b_M_leastMeeting 3 (some .int) ∈ TBL := tbl_in (List.mem_append_right _ (List.mem_append_left _ (List.mem_of_getElem? (i := 74) (by rfl)))) rfl
theorem kL_M_22 : Cond.methodLink R_M 22 y_M_meet ∈ TBL := tbl_in (List.mem_append_right _ (List.mem_append_left _ (List.mem_of_getElem? (i := 75) (by rfl)))) rfl
theorem kM_y_M_meet : Cond.instanceMethod y_M_meet ∈ TBL := tbl_in (List.mem_append_right _ (List.mem_append_left _ (List.mem_of_getElem? (i := 77) (by rfl)))) rfl
theorem kY_y_M_meet : Cond.code y_M_meet b_M_meet 3 (some .boolean) ∈ TBL := tbl_in (List.mem_append_right _ (List.mem_append_left _ (List.mem_of_getElem? (i := 78) (by rfl)))) rfl
theorem kL_M_26 : Cond.methodLink R_M 26 y_M_haveSameEnds ∈ TBL := tbl_in (List.mem_append_right _ (List.mem_append_left _ (List.mem_of_getElem? (i := 79) (by rfl)))) rfl
theorem kM_y_M_haveSameEnds : Cond.instanceMethod y_M_haveSameEnds ∈ TBL := tbl_in (List.mem_append_right _ (List.mem_append_left _ (List.mem_of_getElem? (i := 81) (by rfl)))) rfl
theorem kY_y_M_haveSameEnds : Cond.code y_M_haveSameEnds b_M_haveSameEnds 3 (some .boolean) ∈ TBL := tbl_in (List.mem_append_right _ (List.mem_append_left _ (List.mem_of_getElem? (i := 82) (by rfl)))) rfl
theorem kL_M_35 : Cond.methodLink R_M 35 y_M_sameTail ∈ TBL := tbl_in (List.mem_append_right _ (List.mem_append_left _ (List.mem_of_getElem? (i := 83) (by rfl)))) rfl
theorem kM_y_M_sameTail : Cond.instanceMethod y_M_sameTail ∈ TBL := tbl_in (List.mem_append_right _ (List.mem_append_left _ (List.mem_of_getElem? (i := 85) (by rfl)))) rfl
theorem kY_y_M_sameTail : Cond.code y_M_sameTail b_M_sameTail 3 (some .boolean) ∈ TBL := tbl_in (List.mem_append_right _ (List.mem_append_left _ (List.mem_of_getElem? (i := 86) (by rfl)))) rfl
theorem kL_M_29 : Cond.methodLink R_M 29 y_M_holdsAnEndOf ∈ TBL := tbl_in (List.mem_append_right _ (List.mem_append_left _ (List.mem_of_getElem? (i := 87) (by rfl)))) rfl
theorem kM_y_M_holdsAnEndOf : Cond.instanceMethod y_M_holdsAnEndOf ∈ TBL := tbl_in (List.mem_append_right _ (List.mem_append_left _ (List.mem_of_getElem? (i := 89) (by rfl)))) rfl
theorem kY_y_M_holdsAnEndOf : Cond.code y_M_holdsAnEndOf b_M_holdsAnEndOf 3 (some .boolean) ∈ TBL := tbl_in (List.mem_append_right _ (List.mem_append_left _ (List.mem_of_getElem? (i := 90) (by rfl)))) rfl
theorem kL_M_38 : Cond.methodLink R_M 38 y_M_isInside ∈ TBL := tbl_in (List.mem_append_right _ (List.mem_append_left _ (List.mem_of_getElem? (i := 91) (by rfl)))) rfl
theorem kM_y_M_isInside : Cond.instanceMethod y_M_isInside ∈ TBL := tbl_in (List.mem_append_right _ (List.mem_append_left _ (List.mem_of_getElem? (i := 93) (by rfl)))) rfl
theorem kY_y_M_isInside : Cond.code y_M_isInside b_M_isInside 6 (some .boolean) ∈ TBL := tbl_in (List.mem_append_right _ (List.mem_append_left _ (List.mem_of_getElem? (i := 94) (by rfl)))) rfl
theorem kL_M_42 : Cond.methodLink R_M 42 y_M_leftness ∈ TBL := tbl_in (List.mem_append_right _ (List.mem_append_left _ (List.mem_of_getElem? (i := 95) (by rfl)))) rfl
theorem kM_y_M_leftness : Cond.instanceMethod y_M_leftness ∈ TBL := tbl_in (List.mem_append_right _ (List.mem_append_left _ (List.mem_of_getElem? (i := 97) (by rfl)))) rfl
theorem kY_y_M_leftness : Cond.code y_M_leftness b_M_leftness 5 (some .int) ∈ TBL := tbl_in (List.mem_append_right _ (List.mem_append_left _ (List.mem_of_getElem? (i := 98) (by rfl)))) rfl
theorem kL_M_46 : Cond.methodLink R_M 46 y_M_stepX ∈ TBL := tbl_in (List.mem_append_right _ (List.mem_append_left _ (List.mem_of_getElem? (i := 99) (by rfl)))) rfl
theorem kM_y_M_stepX : Cond.instanceMethod y_M_stepX ∈ TBL := tbl_in (List.mem_append_right _ (List.mem_append_left _ (List.mem_of_getElem? (i := 100) (by rfl)))) rfl
theorem kV_y_M_stepX : Cond.selects R_M y_M_stepX y_M_stepX ∈ TBL := tbl_in (List.mem_append_right _ (List.mem_append_left _ (List.mem_of_getElem? (i := 101) (by rfl)))) rfl
theorem kY_y_M_stepX : Cond.code y_M_stepX b_M_stepX 2 (some .int) ∈ TBL := tbl_in (List.mem_append_right _ (List.mem_append_left _ (List.mem_of_getElem? (i := 102) (by rfl)))) rfl
theorem kL_M_50 : Cond.methodLink R_M 50 y_M_stepY ∈ TBL := tbl_in (List.mem_append_right _ (List.mem_append_left _ (List.mem_of_getElem? (i := 103) (by rfl)))) rfl
theorem kM_y_M_stepY : Cond.instanceMethod y_M_stepY ∈ TBL := tbl_in (List.mem_append_right _ (List.mem_append_left _ (List.mem_of_getElem? (i := 104) (by rfl)))) rfl
theorem kV_y_M_stepY : Cond.selects R_M y_M_stepY y_M_stepY ∈ TBL := tbl_in (List.mem_append_right _ (List.mem_append_left _ (List.mem_of_getElem? (i := 105) (by rfl)))) rfl
theorem kY_y_M_stepY : Cond.code y_M_stepY b_M_stepY 2 (some .int) ∈ TBL := tbl_in (List.mem_append_right _ (List.mem_append_left _ (List.mem_of_getElem? (i := 106) (by rfl)))) rfl
theorem kL_M_53 : Cond.methodLink R_M 53 y_M_cross ∈ TBL := tbl_in (List.mem_append_right _ (List.mem_append_left _ (List.mem_of_getElem? (i := 107) (by rfl)))) rfl
theorem kS_y_M_cross : Cond.static y_M_cross ∈ TBL := tbl_in (List.mem_append_right _ (List.mem_append_left _ (List.mem_of_getElem? (i := 108) (by rfl)))) rfl
theorem kY_y_M_cross : Cond.code y_M_cross b_M_cross 4 (some .int) ∈ TBL := tbl_in (List.mem_append_right _ (List.mem_append_left _ (List.mem_of_getElem? (i := 109) (by rfl)))) rfl
theorem kL_M_32 : Cond.methodLink R_M 32 y_M_partsTheEndsOf ∈ TBL := tbl_in (List.mem_append_right _ (List.mem_append_left _ (List.mem_of_getElem? (i := 110) (by rfl)))) rfl
theorem kM_y_M_partsTheEndsOf : Cond.instanceMethod y_M_partsTheEndsOf ∈ TBL := tbl_in (List.mem_append_right _ (List.mem_append_left _ (List.mem_of_getElem? (i := 112) (by rfl)))) rfl
theorem kY_y_M_partsTheEndsOf : Cond.code y_M_partsTheEndsOf b_M_partsTheEndsOf 5 (some .boolean) ∈ TBL := tbl_in (List.mem_append_right _ (List.mem_append_left _ (List.mem_of_getElem? (i := 113) (by rfl)))) rfl
theorem kL_A_44 : Cond.methodLink R_A 44 y_M_setUsed ∈ TBL := tbl_in (List.mem_append_right _ (List.mem_append_left _ (List.mem_of_getElem? (i := 114) (by rfl)))) rfl
theorem kM_y_M_setUsed : Cond.instanceMethod y_M_setUsed ∈ TBL := tbl_in (List.mem_append_right _ (List.mem_append_left _ (List.mem_of_getElem? (i := 115) (by rfl)))) rfl
theorem kV_y_M_setUsed : Cond.selects R_M y_M_setUsed y_M_setUsed ∈ TBL := tbl_in (List.mem_append_right _ (List.mem_append_left _ (List.mem_of_getElem? (i := 116) (by rfl)))) rfl
theorem kY_y_M_setUsed : Cond.code y_M_setUsed b_M_setUsed 3 none ∈ TBL := tbl_in (List.mem_append_right _ (List.mem_append_left _ (List.mem_of_getElem? (i := 117) (by rfl)))) rfl
theorem kL_A_48 : Cond.methodLink R_A 48 y_A_regroup ∈ TBL := tbl_in (List.mem_append_right _ (List.mem_append_left _ (List.mem_of_getElem? (i := 118) (by rfl)))) rfl
theorem kM_y_A_regroup : Cond.instanceMethod y_A_regroup ∈ TBL := tbl_in (List.mem_append_right _ (List.mem_append_left _ (List.mem_of_getElem? (i := 120) (by rfl)))) rfl
theorem kY_y_A_regroup : Cond.code y_A_regroup b_A_regroup 2 none ∈ TBL := tbl_in (List.mem_append_right _ (List.mem_append_left _ (List.mem_of_getElem? (i := 121) (by rfl)))) rfl
theorem kL_A_86 : Cond.methodLink R_A 86 y_G_scatter ∈ TBL := tbl_in (List.mem_append_right _ (List.mem_append_left _ (List.mem_of_getElem? (i := 122) (by rfl)))) rfl
theorem kL_A_55 : Cond.methodLink R_A 55 y_M_hasArrow ∈ TBL := tbl_in (List.mem_append_right _ (List.mem_append_left _ (List.mem_of_getElem? (i := 123) (by rfl)))) rfl
theorem kM_y_M_hasArrow : Cond.instanceMethod y_M_hasArrow ∈ TBL := tbl_in (List.mem_append_right _ (List.mem_append_left _ (List.mem_of_getElem? (i := 124) (by rfl)))) rfl
theorem kV_y_M_hasArrow : Cond.selects R_M y_M_hasArrow y_M_hasArrow ∈ TBL := tbl_in (List.mem_append_right _ (List.mem_append_left _ (List.mem_of_getElem? (i := 125) (by rfl)))) rfl
theorem kY_y_M_hasArrow : Cond.code y_M_hasArrow b_M_hasArrow 2 (some .boolean) ∈ TBL := tbl_in (List.mem_append_right _ (List.mem_append_left _ (List.mem_of_getElem? (i := 126) (by rfl)))) rfl
theorem kL_A_89 : Cond.methodLink R_A 89 y_A_joinWithNextAroundTail ∈ TBL := tbl_in (List.mem_append_right _ (List.mem_append_left _ (List.mem_of_getElem? (i := 127) (by rfl)))) rfl
theorem kM_y_A_joinWithNextAroundTail : Cond.instanceMethod y_A_joinWithNextAroundTail ∈ TBL := tbl_in (List.mem_append_right _ (List.mem_append_left _ (List.mem_of_getElem? (i := 129) (by rfl)))) rfl
theorem kY_y_A_joinWithNextAroundTail : Cond.code y_A_joinWithNextAroundTail b_A_joinWithNextAroundTail 3 none ∈ TBL := tbl_in (List.mem_append_right _ (List.mem_append_left _ (List.mem_of_getElem? (i := 130) (by rfl)))) rfl
theorem kL_A_95 : Cond.methodLink R_A 95 y_M_stepX ∈ TBL := tbl_in (List.mem_append_right _ (List.mem_append_left _ (List.mem_of_getElem? (i := 131) (by rfl)))) rfl
theorem kL_A_98 : Cond.methodLink R_A 98 y_M_stepY ∈ TBL := tbl_in (List.mem_append_right _ (List.mem_append_left _ (List.mem_of_getElem? (i := 132) (by rfl)))) rfl
theorem kL_A_101 : Cond.methodLink R_A 101 y_M_sideFacing ∈ TBL := tbl_in (List.mem_append_right _ (List.mem_append_left _ (List.mem_of_getElem? (i := 133) (by rfl)))) rfl
theorem kM_y_M_sideFacing : Cond.instanceMethod y_M_sideFacing ∈ TBL := tbl_in (List.mem_append_right _ (List.mem_append_left _ (List.mem_of_getElem? (i := 134) (by rfl)))) rfl
theorem kV_y_M_sideFacing : Cond.selects R_M y_M_sideFacing y_M_sideFacing ∈ TBL := tbl_in (List.mem_append_right _ (List.mem_append_left _ (List.mem_of_getElem? (i := 135) (by rfl)))) rfl
theorem kY_y_M_sideFacing : Cond.code y_M_sideFacing b_M_sideFacing 6 (some .int) ∈ TBL := tbl_in (List.mem_append_right _ (List.mem_append_left _ (List.mem_of_getElem? (i := 136) (by rfl)))) rfl
theorem kL_M_69 : Cond.methodLink R_M 69 y_M_comesSooner ∈ TBL := tbl_in (List.mem_append_right _ (List.mem_append_left _ (List.mem_of_getElem? (i := 137) (by rfl)))) rfl
theorem kM_y_M_comesSooner : Cond.instanceMethod y_M_comesSooner ∈ TBL := tbl_in (List.mem_append_right _ (List.mem_append_left _ (List.mem_of_getElem? (i := 139) (by rfl)))) rfl
theorem kY_y_M_comesSooner : Cond.code y_M_comesSooner b_M_comesSooner 7 (some .boolean) ∈ TBL := tbl_in (List.mem_append_right _ (List.mem_append_left _ (List.mem_of_getElem? (i := 140) (by rfl)))) rfl
theorem kL_M_73 : Cond.methodLink R_M 73 y_M_turnRank ∈ TBL := tbl_in (List.mem_append_right _ (List.mem_append_left _ (List.mem_of_getElem? (i := 141) (by rfl)))) rfl
theorem kS_y_M_turnRank : Cond.static y_M_turnRank ∈ TBL := tbl_in (List.mem_append_right _ (List.mem_append_left _ (List.mem_of_getElem? (i := 142) (by rfl)))) rfl
theorem kY_y_M_turnRank : Cond.code y_M_turnRank b_M_turnRank 5 (some .int) ∈ TBL := tbl_in (List.mem_append_right _ (List.mem_append_left _ (List.mem_of_getElem? (i := 143) (by rfl)))) rfl
theorem kL_A_105 : Cond.methodLink R_A 105 y_G_join ∈ TBL := tbl_in (List.mem_append_right _ (List.mem_append_left _ (List.mem_of_getElem? (i := 144) (by rfl)))) rfl
theorem kM_y_G_join : Cond.instanceMethod y_G_join ∈ TBL := tbl_in (List.mem_append_right _ (List.mem_append_left _ (List.mem_of_getElem? (i := 145) (by rfl)))) rfl
theorem kV_y_G_join : Cond.selects R_G y_G_join y_G_join ∈ TBL := tbl_in (List.mem_append_right _ (List.mem_append_left _ (List.mem_of_getElem? (i := 146) (by rfl)))) rfl
theorem kY_y_G_join : Cond.code y_G_join b_G_join 6 none ∈ TBL := tbl_in (List.mem_append_right _ (List.mem_append_left _ (List.mem_of_getElem? (i := 147) (by rfl)))) rfl
theorem kL_A_92 : Cond.methodLink R_A 92 y_A_joinWithWhatIsAbove ∈ TBL := tbl_in (List.mem_append_right _ (List.mem_append_left _ (List.mem_of_getElem? (i := 148) (by rfl)))) rfl
theorem kM_y_A_joinWithWhatIsAbove : Cond.instanceMethod y_A_joinWithWhatIsAbove ∈ TBL := tbl_in (List.mem_append_right _ (List.mem_append_left _ (List.mem_of_getElem? (i := 150) (by rfl)))) rfl
theorem kY_y_A_joinWithWhatIsAbove : Cond.code y_A_joinWithWhatIsAbove b_A_joinWithWhatIsAbove 3 none ∈ TBL := tbl_in (List.mem_append_right _ (List.mem_append_left _ (List.mem_of_getElem? (i := 151) (by rfl)))) rfl
theorem kL_A_109 : Cond.methodLink R_A 109 y_M_startsAtPeak ∈ TBL := tbl_in (List.mem_append_right _ (List.mem_append_left _ (List.mem_of_getElem? (i := 152) (by rfl)))) rfl
theorem kM_y_M_startsAtPeak : Cond.instanceMethod y_M_startsAtPeak ∈ TBL := tbl_in (List.mem_append_right _ (List.mem_append_left _ (List.mem_of_getElem? (i := 153) (by rfl)))) rfl
theorem kV_y_M_startsAtPeak : Cond.selects R_M y_M_startsAtPeak y_M_startsAtPeak ∈ TBL := tbl_in (List.mem_append_right _ (List.mem_append_left _ (List.mem_of_getElem? (i := 154) (by rfl)))) rfl
theorem kY_y_M_startsAtPeak : Cond.code y_M_startsAtPeak b_M_startsAtPeak 3 (some .boolean) ∈ TBL := tbl_in (List.mem_append_right _ (List.mem_append_left _ (List.mem_of_getElem? (i := 155) (by rfl)))) rfl
theorem kL_A_112 : Cond.methodLink R_A 112 y_M_tailX ∈ TBL := tbl_in (List.mem_append_right _ (List.mem_append_left _ (List.mem_of_getElem? (i := 156) (by rfl)))) rfl
theorem kM_y_M_tailX : Cond.instanceMethod y_M_tailX ∈ TBL := tbl_in (List.mem_append_right _ (List.mem_append_left _ (List.mem_of_getElem? (i := 157) (by rfl)))) rfl
theorem kV_y_M_tailX : Cond.selects R_M y_M_tailX y_M_tailX ∈ TBL := tbl_in (List.mem_append_right _ (List.mem_append_left _ (List.mem_of_getElem? (i := 158) (by rfl)))) rfl
theorem kY_y_M_tailX : Cond.code y_M_tailX b_M_tailX 2 (some .int) ∈ TBL := tbl_in (List.mem_append_right _ (List.mem_append_left _ (List.mem_of_getElem? (i := 159) (by rfl)))) rfl
theorem kL_A_115 : Cond.methodLink R_A 115 y_M_tailY ∈ TBL := tbl_in (List.mem_append_right _ (List.mem_append_left _ (List.mem_of_getElem? (i := 160) (by rfl)))) rfl
theorem kM_y_M_tailY : Cond.instanceMethod y_M_tailY ∈ TBL := tbl_in (List.mem_append_right _ (List.mem_append_left _ (List.mem_of_getElem? (i := 161) (by rfl)))) rfl
theorem kV_y_M_tailY : Cond.selects R_M y_M_tailY y_M_tailY ∈ TBL := tbl_in (List.mem_append_right _ (List.mem_append_left _ (List.mem_of_getElem? (i := 162) (by rfl)))) rfl
theorem kY_y_M_tailY : Cond.code y_M_tailY b_M_tailY 2 (some .int) ∈ TBL := tbl_in (List.mem_append_right _ (List.mem_append_left _ (List.mem_of_getElem? (i := 163) (by rfl)))) rfl
theorem kL_A_83 : Cond.methodLink R_A 83 y_M_sideAbove ∈ TBL := tbl_in (List.mem_append_right _ (List.mem_append_left _ (List.mem_of_getElem? (i := 164) (by rfl)))) rfl
theorem kM_y_M_sideAbove : Cond.instanceMethod y_M_sideAbove ∈ TBL := tbl_in (List.mem_append_right _ (List.mem_append_left _ (List.mem_of_getElem? (i := 165) (by rfl)))) rfl
theorem kV_y_M_sideAbove : Cond.selects R_M y_M_sideAbove y_M_sideAbove ∈ TBL := tbl_in (List.mem_append_right _ (List.mem_append_left _ (List.mem_of_getElem? (i := 166) (by rfl)))) rfl
theorem kY_y_M_sideAbove : Cond.code y_M_sideAbove b_M_sideAbove 6 (some .int) ∈ TBL := tbl_in (List.mem_append_right _ (List.mem_append_left _ (List.mem_of_getElem? (i := 167) (by rfl)))) rfl
theorem kL_M_63 : Cond.methodLink R_M 63 y_M_struckAbove ∈ TBL := tbl_in (List.mem_append_right _ (List.mem_append_left _ (List.mem_of_getElem? (i := 168) (by rfl)))) rfl
theorem kM_y_M_struckAbove : Cond.instanceMethod y_M_struckAbove ∈ TBL := tbl_in (List.mem_append_right _ (List.mem_append_left _ (List.mem_of_getElem? (i := 169) (by rfl)))) rfl
theorem kV_y_M_struckAbove : Cond.selects R_M y_M_struckAbove y_M_struckAbove ∈ TBL := tbl_in (List.mem_append_right _ (List.mem_append_left _ (List.mem_of_getElem? (i := 170) (by rfl)))) rfl
theorem kY_y_M_struckAbove : Cond.code y_M_struckAbove b_M_struckAbove 10 (some .int) ∈ TBL := tbl_in (List.mem_append_right _ (List.mem_append_left _ (List.mem_of_getElem? (i := 171) (by rfl)))) rfl
theorem kL_M_57 : Cond.methodLink R_M 57 Lib.Math.max.name ∈ TBL := tbl_in (List.mem_append_right _ (List.mem_append_left _ (List.mem_of_getElem? (i := 172) (by rfl)))) rfl
theorem kS_Lib_Math_max_name : Cond.static Lib.Math.max.name ∈ TBL := tbl_in (List.mem_append_right _ (List.mem_append_left _ (List.mem_of_getElem? (i := 173) (by rfl)))) rfl
theorem kY_Lib_Math_max_name : Cond.code Lib.Math.max.name Lib.Math.max.code 2 (some .int) ∈ TBL := tbl_in (List.mem_append_right _ (List.mem_append_left _ (List.mem_of_getElem? (i := 174) (by rfl)))) rfl
theorem kL_M_66 : Cond.methodLink R_M 66 y_M_sideFacing ∈ TBL := tbl_in (List.mem_append_right _ (List.mem_append_left _ (List.mem_of_getElem? (i := 175) (by rfl)))) rfl
theorem kL_L_18 : Cond.methodLink R_L 18 y_A_remove ∈ TBL := tbl_in (List.mem_append_right _ (List.mem_append_left _ (List.mem_of_getElem? (i := 176) (by rfl)))) rfl
theorem kM_y_A_remove : Cond.instanceMethod y_A_remove ∈ TBL := tbl_in (List.mem_append_right _ (List.mem_append_left _ (List.mem_of_getElem? (i := 177) (by rfl)))) rfl
theorem kV_y_A_remove : Cond.selects R_A y_A_remove y_A_remove ∈ TBL := tbl_in (List.mem_append_right _ (List.mem_append_left _ (List.mem_of_getElem? (i := 178) (by rfl)))) rfl
theorem kY_y_A_remove : Cond.code y_A_remove b_A_remove 2 (some .boolean) ∈ TBL := tbl_in (List.mem_append_right _ (List.mem_append_left _ (List.mem_of_getElem? (i := 179) (by rfl)))) rfl
theorem kL_A_51 : Cond.methodLink R_A 51 y_M_has ∈ TBL := tbl_in (List.mem_append_right _ (List.mem_append_left _ (List.mem_of_getElem? (i := 180) (by rfl)))) rfl
theorem kM_y_M_has : Cond.instanceMethod y_M_has ∈ TBL := tbl_in (List.mem_append_right _ (List.mem_append_left _ (List.mem_of_getElem? (i := 181) (by rfl)))) rfl
theorem kV_y_M_has : Cond.selects R_M y_M_has y_M_has ∈ TBL := tbl_in (List.mem_append_right _ (List.mem_append_left _ (List.mem_of_getElem? (i := 182) (by rfl)))) rfl
theorem kY_y_M_has : Cond.code y_M_has b_M_has 2 (some .boolean) ∈ TBL := tbl_in (List.mem_append_right _ (List.mem_append_left _ (List.mem_of_getElem? (i := 183) (by rfl)))) rfl
theorem kL_L_23 : Cond.methodLink R_L 23 y_A_segments ∈ TBL := tbl_in (List.mem_append_right _ (List.mem_append_left _ (List.mem_of_getElem? (i := 184) (by rfl)))) rfl
theorem kM_y_A_segments : Cond.instanceMethod y_A_segments ∈ TBL := tbl_in (List.mem_append_right _ (List.mem_append_left _ (List.mem_of_getElem? (i := 185) (by rfl)))) rfl
theorem kV_y_A_segments : Cond.selects R_A y_A_segments y_A_segments ∈ TBL := tbl_in (List.mem_append_right _ (List.mem_append_left _ (List.mem_of_getElem? (i := 186) (by rfl)))) rfl
theorem kY_y_A_segments : Cond.code y_A_segments b_A_segments 3 (some .int) ∈ TBL := tbl_in (List.mem_append_right _ (List.mem_append_left _ (List.mem_of_getElem? (i := 187) (by rfl)))) rfl
theorem kL_L_28 : Cond.methodLink R_L 28 y_A_vertices ∈ TBL := tbl_in (List.mem_append_right _ (List.mem_append_left _ (List.mem_of_getElem? (i := 188) (by rfl)))) rfl
theorem kM_y_A_vertices : Cond.instanceMethod y_A_vertices ∈ TBL := tbl_in (List.mem_append_right _ (List.mem_append_left _ (List.mem_of_getElem? (i := 189) (by rfl)))) rfl
theorem kV_y_A_vertices : Cond.selects R_A y_A_vertices y_A_vertices ∈ TBL := tbl_in (List.mem_append_right _ (List.mem_append_left _ (List.mem_of_getElem? (i := 190) (by rfl)))) rfl
theorem kY_y_A_vertices : Cond.code y_A_vertices b_A_vertices 3 (some .int) ∈ TBL := tbl_in (List.mem_append_right _ (List.mem_append_left _ (List.mem_of_getElem? (i := 191) (by rfl)))) rfl
theorem kL_A_58 : Cond.methodLink R_A 58 y_M_isFirstOfItsVertex ∈ TBL := tbl_in (List.mem_append_right _ (List.mem_append_left _ (List.mem_of_getElem? (i := 192) (by rfl)))) rfl
theorem kM_y_M_isFirstOfItsVertex : Cond.instanceMethod y_M_isFirstOfItsVertex ∈ TBL := tbl_in (List.mem_append_right _ (List.mem_append_left _ (List.mem_of_getElem? (i := 193) (by rfl)))) rfl
theorem kV_y_M_isFirstOfItsVertex : Cond.selects R_M y_M_isFirstOfItsVertex y_M_isFirstOfItsVertex ∈ TBL := tbl_in (List.mem_append_right _ (List.mem_append_left _ (List.mem_of_getElem? (i := 194) (by rfl)))) rfl
theorem kY_y_M_isFirstOfItsVertex : Cond.code y_M_isFirstOfItsVertex b_M_isFirstOfItsVertex 3 (some .boolean) ∈ TBL := tbl_in (List.mem_append_right _ (List.mem_append_left _ (List.mem_of_getElem? (i := 195) (by rfl)))) rfl
theorem kL_L_32 : Cond.methodLink R_L 32 y_A_parts ∈ TBL := tbl_in (List.mem_append_right _ (List.mem_append_left _ (List.mem_of_getElem? (i := 196) (by rfl)))) rfl
theorem kM_y_A_parts : Cond.instanceMethod y_A_parts ∈ TBL := tbl_in (List.mem_append_right _ (List.mem_append_left _ (List.mem_of_getElem? (i := 197) (by rfl)))) rfl
theorem kV_y_A_parts : Cond.selects R_A y_A_parts y_A_parts ∈ TBL := tbl_in (List.mem_append_right _ (List.mem_append_left _ (List.mem_of_getElem? (i := 198) (by rfl)))) rfl
theorem kY_y_A_parts : Cond.code y_A_parts b_A_parts 3 (some .int) ∈ TBL := tbl_in (List.mem_append_right _ (List.mem_append_left _ (List.mem_of_getElem? (i := 199) (by rfl)))) rfl
theorem kL_A_61 : Cond.methodLink R_A 61 y_G_isLeader ∈ TBL := tbl_in (List.mem_append_right _ (List.mem_append_left _ (List.mem_of_getElem? (i := 200) (by rfl)))) rfl
theorem kM_y_G_isLeader : Cond.instanceMethod y_G_isLeader ∈ TBL := tbl_in (List.mem_append_right _ (List.mem_append_left _ (List.mem_of_getElem? (i := 201) (by rfl)))) rfl
theorem kV_y_G_isLeader : Cond.selects R_G y_G_isLeader y_G_isLeader ∈ TBL := tbl_in (List.mem_append_right _ (List.mem_append_left _ (List.mem_of_getElem? (i := 202) (by rfl)))) rfl
theorem kY_y_G_isLeader : Cond.code y_G_isLeader b_G_isLeader 2 (some .boolean) ∈ TBL := tbl_in (List.mem_append_right _ (List.mem_append_left _ (List.mem_of_getElem? (i := 203) (by rfl)))) rfl
theorem kL_L_36 : Cond.methodLink R_L 36 y_A_faces ∈ TBL := tbl_in (List.mem_append_right _ (List.mem_append_left _ (List.mem_of_getElem? (i := 204) (by rfl)))) rfl
theorem kM_y_A_faces : Cond.instanceMethod y_A_faces ∈ TBL := tbl_in (List.mem_append_right _ (List.mem_append_left _ (List.mem_of_getElem? (i := 205) (by rfl)))) rfl
theorem kV_y_A_faces : Cond.selects R_A y_A_faces y_A_faces ∈ TBL := tbl_in (List.mem_append_right _ (List.mem_append_left _ (List.mem_of_getElem? (i := 206) (by rfl)))) rfl
theorem kY_y_A_faces : Cond.code y_A_faces b_A_faces 3 (some .int) ∈ TBL := tbl_in (List.mem_append_right _ (List.mem_append_left _ (List.mem_of_getElem? (i := 207) (by rfl)))) rfl
theorem kL_L_40 : Cond.methodLink R_L 40 y_A_find ∈ TBL := tbl_in (List.mem_append_right _ (List.mem_append_left _ (List.mem_of_getElem? (i := 208) (by rfl)))) rfl
theorem kM_y_A_find : Cond.instanceMethod y_A_find ∈ TBL := tbl_in (List.mem_append_right _ (List.mem_append_left _ (List.mem_of_getElem? (i := 209) (by rfl)))) rfl
theorem kV_y_A_find : Cond.selects R_A y_A_find y_A_find ∈ TBL := tbl_in (List.mem_append_right _ (List.mem_append_left _ (List.mem_of_getElem? (i := 210) (by rfl)))) rfl
theorem kY_y_A_find : Cond.code y_A_find b_A_find 5 (some .int) ∈ TBL := tbl_in (List.mem_append_right _ (List.mem_append_left _ (List.mem_of_getElem? (i := 211) (by rfl)))) rfl
theorem kL_A_64 : Cond.methodLink R_A 64 y_M_endsAt ∈ TBL := tbl_in (List.mem_append_right _ (List.mem_append_left _ (List.mem_of_getElem? (i := 212) (by rfl)))) rfl
theorem kM_y_M_endsAt : Cond.instanceMethod y_M_endsAt ∈ TBL := tbl_in (List.mem_append_right _ (List.mem_append_left _ (List.mem_of_getElem? (i := 213) (by rfl)))) rfl
theorem kV_y_M_endsAt : Cond.selects R_M y_M_endsAt y_M_endsAt ∈ TBL := tbl_in (List.mem_append_right _ (List.mem_append_left _ (List.mem_of_getElem? (i := 214) (by rfl)))) rfl
theorem kY_y_M_endsAt : Cond.code y_M_endsAt b_M_endsAt 5 (some .int) ∈ TBL := tbl_in (List.mem_append_right _ (List.mem_append_left _ (List.mem_of_getElem? (i := 215) (by rfl)))) rfl
theorem kL_A_68 : Cond.methodLink R_A 68 y_M_segmentAround ∈ TBL := tbl_in (List.mem_append_right _ (List.mem_append_left _ (List.mem_of_getElem? (i := 216) (by rfl)))) rfl
theorem kM_y_M_segmentAround : Cond.instanceMethod y_M_segmentAround ∈ TBL := tbl_in (List.mem_append_right _ (List.mem_append_left _ (List.mem_of_getElem? (i := 217) (by rfl)))) rfl
theorem kV_y_M_segmentAround : Cond.selects R_M y_M_segmentAround y_M_segmentAround ∈ TBL := tbl_in (List.mem_append_right _ (List.mem_append_left _ (List.mem_of_getElem? (i := 218) (by rfl)))) rfl
theorem kY_y_M_segmentAround : Cond.code y_M_segmentAround b_M_segmentAround 4 (some .int) ∈ TBL := tbl_in (List.mem_append_right _ (List.mem_append_left _ (List.mem_of_getElem? (i := 219) (by rfl)))) rfl
theorem kL_A_71 : Cond.methodLink R_A 71 y_M_struckAbove ∈ TBL := tbl_in (List.mem_append_right _ (List.mem_append_left _ (List.mem_of_getElem? (i := 220) (by rfl)))) rfl
theorem kL_L_45 : Cond.methodLink R_L 45 y_A_same ∈ TBL := tbl_in (List.mem_append_right _ (List.mem_append_left _ (List.mem_of_getElem? (i := 221) (by rfl)))) rfl
theorem kM_y_A_same : Cond.instanceMethod y_A_same ∈ TBL := tbl_in (List.mem_append_right _ (List.mem_append_left _ (List.mem_of_getElem? (i := 222) (by rfl)))) rfl
theorem kV_y_A_same : Cond.selects R_A y_A_same y_A_same ∈ TBL := tbl_in (List.mem_append_right _ (List.mem_append_left _ (List.mem_of_getElem? (i := 223) (by rfl)))) rfl
theorem kY_y_A_same : Cond.code y_A_same b_A_same 7 (some .boolean) ∈ TBL := tbl_in (List.mem_append_right _ (List.mem_append_left _ (List.mem_of_getElem? (i := 224) (by rfl)))) rfl
theorem kL_A_74 : Cond.methodLink R_A 74 y_A_sideSeenFrom ∈ TBL := tbl_in (List.mem_append_right _ (List.mem_append_left _ (List.mem_of_getElem? (i := 225) (by rfl)))) rfl
theorem kM_y_A_sideSeenFrom : Cond.instanceMethod y_A_sideSeenFrom ∈ TBL := tbl_in (List.mem_append_right _ (List.mem_append_left _ (List.mem_of_getElem? (i := 227) (by rfl)))) rfl
theorem kY_y_A_sideSeenFrom : Cond.code y_A_sideSeenFrom b_A_sideSeenFrom 3 (some .int) ∈ TBL := tbl_in (List.mem_append_right _ (List.mem_append_left _ (List.mem_of_getElem? (i := 228) (by rfl)))) rfl
theorem kL_A_77 : Cond.methodLink R_A 77 y_G_together ∈ TBL := tbl_in (List.mem_append_right _ (List.mem_append_left _ (List.mem_of_getElem? (i := 229) (by rfl)))) rfl
theorem kM_y_G_together : Cond.instanceMethod y_G_together ∈ TBL := tbl_in (List.mem_append_right _ (List.mem_append_left _ (List.mem_of_getElem? (i := 230) (by rfl)))) rfl
theorem kV_y_G_together : Cond.selects R_G y_G_together y_G_together ∈ TBL := tbl_in (List.mem_append_right _ (List.mem_append_left _ (List.mem_of_getElem? (i := 231) (by rfl)))) rfl
theorem kY_y_G_together : Cond.code y_G_together b_G_together 3 (some .boolean) ∈ TBL := tbl_in (List.mem_append_right _ (List.mem_append_left _ (List.mem_of_getElem? (i := 232) (by rfl)))) rfl
theorem kL_L_50 : Cond.methodLink R_L 50 y_A_area ∈ TBL := tbl_in (List.mem_append_right _ (List.mem_append_left _ (List.mem_of_getElem? (i := 233) (by rfl)))) rfl
theorem kM_y_A_area : Cond.instanceMethod y_A_area ∈ TBL := tbl_in (List.mem_append_right _ (List.mem_append_left _ (List.mem_of_getElem? (i := 234) (by rfl)))) rfl
theorem kV_y_A_area : Cond.selects R_A y_A_area y_A_area ∈ TBL := tbl_in (List.mem_append_right _ (List.mem_append_left _ (List.mem_of_getElem? (i := 235) (by rfl)))) rfl
theorem kY_y_A_area : Cond.code y_A_area b_A_area 6 (some .int) ∈ TBL := tbl_in (List.mem_append_right _ (List.mem_append_left _ (List.mem_of_getElem? (i := 236) (by rfl)))) rfl
theorem kL_A_80 : Cond.methodLink R_A 80 y_M_sweep ∈ TBL := tbl_in (List.mem_append_right _ (List.mem_append_left _ (List.mem_of_getElem? (i := 237) (by rfl)))) rfl
theorem kM_y_M_sweep : Cond.instanceMethod y_M_sweep ∈ TBL := tbl_in (List.mem_append_right _ (List.mem_append_left _ (List.mem_of_getElem? (i := 238) (by rfl)))) rfl
theorem kV_y_M_sweep : Cond.selects R_M y_M_sweep y_M_sweep ∈ TBL := tbl_in (List.mem_append_right _ (List.mem_append_left _ (List.mem_of_getElem? (i := 239) (by rfl)))) rfl
theorem kY_y_M_sweep : Cond.code y_M_sweep b_M_sweep 2 (some .int) ∈ TBL := tbl_in (List.mem_append_right _ (List.mem_append_right _ (List.mem_of_getElem? (i := 0) (by rfl)))) rfl
theorem kL_L_54 : Cond.methodLink R_L 54 y_A_border ∈ TBL := tbl_in (List.mem_append_right _ (List.mem_append_right _ (List.mem_of_getElem? (i := 1) (by rfl)))) rfl
theorem kM_y_A_border : Cond.instanceMethod y_A_border ∈ TBL := tbl_in (List.mem_append_right _ (List.mem_append_right _ (List.mem_of_getElem? (i := 2) (by rfl)))) rfl
theorem kV_y_A_border : Cond.selects R_A y_A_border y_A_border ∈ TBL := tbl_in (List.mem_append_right _ (List.mem_append_right _ (List.mem_of_getElem? (i := 3) (by rfl)))) rfl
theorem kY_y_A_border : Cond.code y_A_border b_A_border 6 (some .int) ∈ TBL := tbl_in (List.mem_append_right _ (List.mem_append_right _ (List.mem_of_getElem? (i := 4) (by rfl)))) rfl
theorem kL_L_58 : Cond.methodLink R_L 58 y_A_touches ∈ TBL := tbl_in (List.mem_append_right _ (List.mem_append_right _ (List.mem_of_getElem? (i := 5) (by rfl)))) rfl
theorem kM_y_A_touches : Cond.instanceMethod y_A_touches ∈ TBL := tbl_in (List.mem_append_right _ (List.mem_append_right _ (List.mem_of_getElem? (i := 6) (by rfl)))) rfl
theorem kV_y_A_touches : Cond.selects R_A y_A_touches y_A_touches ∈ TBL := tbl_in (List.mem_append_right _ (List.mem_append_right _ (List.mem_of_getElem? (i := 7) (by rfl)))) rfl
theorem kY_y_A_touches : Cond.code y_A_touches b_A_touches 7 (some .int) ∈ TBL := tbl_in (List.mem_append_right _ (List.mem_append_right _ (List.mem_of_getElem? (i := 8) (by rfl)))) rfl
theorem kC_L_10 : Cond.classLink R_L 10 R_R ∈ TBL := tbl_in (List.mem_append_right _ (List.mem_append_right _ (List.mem_of_getElem? (i := 9) (by rfl)))) rfl
theorem kN_R : Cond.instantiable R_R 11 ∈ TBL := tbl_in (List.mem_append_right _ (List.mem_append_right _ (List.mem_of_getElem? (i := 10) (by rfl)))) rfl
theorem kL_L_12 : Cond.methodLink R_L 12 y_R_init ∈ TBL := tbl_in (List.mem_append_right _ (List.mem_append_right _ (List.mem_of_getElem? (i := 11) (by rfl)))) rfl
theorem kM_y_R_init : Cond.instanceMethod y_R_init ∈ TBL := tbl_in (List.mem_append_right _ (List.mem_append_right _ (List.mem_of_getElem? (i := 12) (by rfl)))) rfl
theorem kY_y_R_init : Cond.code y_R_init b_R_init 1 none ∈ TBL := tbl_in (List.mem_append_right _ (List.mem_append_right _ (List.mem_of_getElem? (i := 13) (by rfl)))) rfl
theorem kL_R_1 : Cond.methodLink R_R 1 objectInit ∈ TBL := tbl_in (List.mem_append_right _ (List.mem_append_right _ (List.mem_of_getElem? (i := 14) (by rfl)))) rfl
theorem kF_R_7 : Cond.fieldLink R_R 7 R_R "used" "[Z" ∈ TBL := tbl_in (List.mem_append_right _ (List.mem_append_right _ (List.mem_of_getElem? (i := 15) (by rfl)))) rfl
theorem kF_R_13 : Cond.fieldLink R_R 13 R_R "ax" "[I" ∈ TBL := tbl_in (List.mem_append_right _ (List.mem_append_right _ (List.mem_of_getElem? (i := 16) (by rfl)))) rfl
theorem kF_R_17 : Cond.fieldLink R_R 17 R_R "ay" "[I" ∈ TBL := tbl_in (List.mem_append_right _ (List.mem_append_right _ (List.mem_of_getElem? (i := 17) (by rfl)))) rfl
theorem kF_R_20 : Cond.fieldLink R_R 20 R_R "bx" "[I" ∈ TBL := tbl_in (List.mem_append_right _ (List.mem_append_right _ (List.mem_of_getElem? (i := 18) (by rfl)))) rfl
theorem kF_R_23 : Cond.fieldLink R_R 23 R_R "by" "[I" ∈ TBL := tbl_in (List.mem_append_right _ (List.mem_append_right _ (List.mem_of_getElem? (i := 19) (by rfl)))) rfl
theorem kF_R_61 : Cond.fieldLink R_R 61 R_R "known" "Z" ∈ TBL := tbl_in (List.mem_append_right _ (List.mem_append_right _ (List.mem_of_getElem? (i := 20) (by rfl)))) rfl
theorem kF_R_86 : Cond.fieldLink R_R 86 R_R "lines" "I" ∈ TBL := tbl_in (List.mem_append_right _ (List.mem_append_right _ (List.mem_of_getElem? (i := 21) (by rfl)))) rfl
theorem kF_R_26 : Cond.fieldLink R_R 26 R_R "line" "[I" ∈ TBL := tbl_in (List.mem_append_right _ (List.mem_append_right _ (List.mem_of_getElem? (i := 22) (by rfl)))) rfl
theorem kF_R_29 : Cond.fieldLink R_R 29 R_R "across" "[I" ∈ TBL := tbl_in (List.mem_append_right _ (List.mem_append_right _ (List.mem_of_getElem? (i := 23) (by rfl)))) rfl
theorem kF_R_32 : Cond.fieldLink R_R 32 R_R "many" "[I" ∈ TBL := tbl_in (List.mem_append_right _ (List.mem_append_right _ (List.mem_of_getElem? (i := 24) (by rfl)))) rfl
theorem kF_R_35 : Cond.fieldLink R_R 35 R_R "same" "[I" ∈ TBL := tbl_in (List.mem_append_right _ (List.mem_append_right _ (List.mem_of_getElem? (i := 25) (by rfl)))) rfl
theorem kL_L_17 : Cond.methodLink R_L 17 y_R_add ∈ TBL := tbl_in (List.mem_append_right _ (List.mem_append_right _ (List.mem_of_getElem? (i := 49) (by rfl)))) rfl
theorem kM_y_R_add : Cond.instanceMethod y_R_add ∈ TBL := tbl_in (List.mem_append_right _ (List.mem_append_right _ (List.mem_of_getElem? (i := 50) (by rfl)))) rfl
theorem kV_y_R_add : Cond.selects R_R y_R_add y_R_add ∈ TBL := tbl_in (List.mem_append_right _ (List.mem_append_right _ (List.mem_of_getElem? (i := 51) (by rfl)))) rfl
theorem kY_y_R_add : Cond.code y_R_add b_R_add 8 (some .int) ∈ TBL := tbl_in (List.mem_append_right _ (List.mem_append_right _ (List.mem_of_getElem? (i := 52) (by rfl)))) rfl
theorem kL_R_53 : Cond.methodLink R_R 53 y_R_near ∈ TBL := tbl_in (List.mem_append_right _ (List.mem_append_right _ (List.mem_of_getElem? (i := 53) (by rfl)))) rfl
theorem kS_y_R_near : Cond.static y_R_near ∈ TBL := tbl_in (List.mem_append_right _ (List.mem_append_right _ (List.mem_of_getElem? (i := 54) (by rfl)))) rfl
theorem kY_y_R_near : Cond.code y_R_near b_R_near 1 (some .boolean) ∈ TBL := tbl_in (List.mem_append_right _ (List.mem_append_right _ (List.mem_of_getElem? (i := 55) (by rfl)))) rfl
theorem kL_R_57 : Cond.methodLink R_R 57 y_R_meet ∈ TBL := tbl_in (List.mem_append_right _ (List.mem_append_right _ (List.mem_of_getElem? (i := 56) (by rfl)))) rfl
theorem kM_y_R_meet : Cond.instanceMethod y_R_meet ∈ TBL := tbl_in (List.mem_append_right _ (List.mem_append_right _ (List.mem_of_getElem? (i := 58) (by rfl)))) rfl
theorem kY_y_R_meet : Cond.code y_R_meet b_R_meet 3 (some .boolean) ∈ TBL := tbl_in (List.mem_append_right _ (List.mem_append_right _ (List.mem_of_getElem? (i := 59) (by rfl)))) rfl
theorem kL_R_50 : Cond.methodLink R_R 50 y_R_isInside ∈ TBL := tbl_in (List.mem_append_right _ (List.mem_append_right _ (List.mem_of_getElem? (i := 60) (by rfl)))) rfl
theorem kM_y_R_isInside : Cond.instanceMethod y_R_isInside ∈ TBL := tbl_in (List.mem_append_right _ (List.mem_append_right _ (List.mem_of_getElem? (i := 62) (by rfl)))) rfl
theorem kY_y_R_isInside : Cond.code y_R_isInside b_R_isInside 6 (some .boolean) ∈ TBL := tbl_in (List.mem_append_right _ (List.mem_append_right _ (List.mem_of_getElem? (i := 63) (by rfl)))) rfl
theorem kL_R_42 : Cond.methodLink R_R 42 y_R_side ∈ TBL := tbl_in (List.mem_append_right _ (List.mem_append_right _ (List.mem_of_getElem? (i := 64) (by rfl)))) rfl
theorem kM_y_R_side : Cond.instanceMethod y_R_side ∈ TBL := tbl_in (List.mem_append_right _ (List.mem_append_right _ (List.mem_of_getElem? (i := 66) (by rfl)))) rfl
theorem kY_y_R_side : Cond.code y_R_side b_R_side 4 (some .int) ∈ TBL := tbl_in (List.mem_append_right _ (List.mem_append_right _ (List.mem_of_getElem? (i := 67) (by rfl)))) rfl
theorem kL_R_38 : Cond.methodLink R_R 38 y_R_sign ∈ TBL := tbl_in (List.mem_append_right _ (List.mem_append_right _ (List.mem_of_getElem? (i := 68) (by rfl)))) rfl
theorem kS_y_R_sign : Cond.static y_R_sign ∈ TBL := tbl_in (List.mem_append_right _ (List.mem_append_right _ (List.mem_of_getElem? (i := 69) (by rfl)))) rfl
theorem kY_y_R_sign : Cond.code y_R_sign b_R_sign 1 (some .int) ∈ TBL := tbl_in (List.mem_append_right _ (List.mem_append_right _ (List.mem_of_getElem? (i := 70) (by rfl)))) rfl
theorem kL_R_46 : Cond.methodLink R_R 46 y_R_isEnd ∈ TBL := tbl_in (List.mem_append_right _ (List.mem_append_right _ (List.mem_of_getElem? (i := 71) (by rfl)))) rfl
theorem kM_y_R_isEnd : Cond.instanceMethod y_R_isEnd ∈ TBL := tbl_in (List.mem_append_right _ (List.mem_append_right _ (List.mem_of_getElem? (i := 73) (by rfl)))) rfl
theorem kY_y_R_isEnd : Cond.code y_R_isEnd b_R_isEnd 4 (some .boolean) ∈ TBL := tbl_in (List.mem_append_right _ (List.mem_append_right _ (List.mem_of_getElem? (i := 74) (by rfl)))) rfl
theorem kL_L_22 : Cond.methodLink R_L 22 y_R_remove ∈ TBL := tbl_in (List.mem_append_right _ (List.mem_append_right _ (List.mem_of_getElem? (i := 75) (by rfl)))) rfl
theorem kM_y_R_remove : Cond.instanceMethod y_R_remove ∈ TBL := tbl_in (List.mem_append_right _ (List.mem_append_right _ (List.mem_of_getElem? (i := 76) (by rfl)))) rfl
theorem kV_y_R_remove : Cond.selects R_R y_R_remove y_R_remove ∈ TBL := tbl_in (List.mem_append_right _ (List.mem_append_right _ (List.mem_of_getElem? (i := 77) (by rfl)))) rfl
theorem kY_y_R_remove : Cond.code y_R_remove b_R_remove 2 (some .boolean) ∈ TBL := tbl_in (List.mem_append_right _ (List.mem_append_right _ (List.mem_of_getElem? (i := 78) (by rfl)))) rfl
theorem kL_R_65 : Cond.methodLink R_R 65 y_R_isSegment ∈ TBL := tbl_in (List.mem_append_right _ (List.mem_append_right _ (List.mem_of_getElem? (i := 79) (by rfl)))) rfl
theorem kM_y_R_isSegment : Cond.instanceMethod y_R_isSegment ∈ TBL := tbl_in (List.mem_append_right _ (List.mem_append_right _ (List.mem_of_getElem? (i := 81) (by rfl)))) rfl
theorem kY_y_R_isSegment : Cond.code y_R_isSegment b_R_isSegment 2 (some .boolean) ∈ TBL := tbl_in (List.mem_append_right _ (List.mem_append_right _ (List.mem_of_getElem? (i := 82) (by rfl)))) rfl
theorem kL_L_27 : Cond.methodLink R_L 27 y_R_segments ∈ TBL := tbl_in (List.mem_append_right _ (List.mem_append_right _ (List.mem_of_getElem? (i := 83) (by rfl)))) rfl
theorem kM_y_R_segments : Cond.instanceMethod y_R_segments ∈ TBL := tbl_in (List.mem_append_right _ (List.mem_append_right _ (List.mem_of_getElem? (i := 84) (by rfl)))) rfl
theorem kV_y_R_segments : Cond.selects R_R y_R_segments y_R_segments ∈ TBL := tbl_in (List.mem_append_right _ (List.mem_append_right _ (List.mem_of_getElem? (i := 85) (by rfl)))) rfl
theorem kY_y_R_segments : Cond.code y_R_segments b_R_segments 3 (some .int) ∈ TBL := tbl_in (List.mem_append_right _ (List.mem_append_right _ (List.mem_of_getElem? (i := 86) (by rfl)))) rfl
theorem kL_L_31 : Cond.methodLink R_L 31 y_R_vertices ∈ TBL := tbl_in (List.mem_append_right _ (List.mem_append_right _ (List.mem_of_getElem? (i := 87) (by rfl)))) rfl
theorem kM_y_R_vertices : Cond.instanceMethod y_R_vertices ∈ TBL := tbl_in (List.mem_append_right _ (List.mem_append_right _ (List.mem_of_getElem? (i := 88) (by rfl)))) rfl
theorem kV_y_R_vertices : Cond.selects R_R y_R_vertices y_R_vertices ∈ TBL := tbl_in (List.mem_append_right _ (List.mem_append_right _ (List.mem_of_getElem? (i := 89) (by rfl)))) rfl
theorem kY_y_R_vertices : Cond.code y_R_vertices b_R_vertices 3 (some .int) ∈ TBL := tbl_in (List.mem_append_right _ (List.mem_append_right _ (List.mem_of_getElem? (i := 90) (by rfl)))) rfl
theorem kL_R_68 : Cond.methodLink R_R 68 y_R_firstAt ∈ TBL := tbl_in (List.mem_append_right _ (List.mem_append_right _ (List.mem_of_getElem? (i := 91) (by rfl)))) rfl
theorem kM_y_R_firstAt : Cond.instanceMethod y_R_firstAt ∈ TBL := tbl_in (List.mem_append_right _ (List.mem_append_right _ (List.mem_of_getElem? (i := 93) (by rfl)))) rfl
theorem kY_y_R_firstAt : Cond.code y_R_firstAt b_R_firstAt 5 (some .int) ∈ TBL := tbl_in (List.mem_append_right _ (List.mem_append_right _ (List.mem_of_getElem? (i := 94) (by rfl)))) rfl
theorem kL_L_35 : Cond.methodLink R_L 35 y_R_parts ∈ TBL := tbl_in (List.mem_append_right _ (List.mem_append_right _ (List.mem_of_getElem? (i := 95) (by rfl)))) rfl
theorem kM_y_R_parts : Cond.instanceMethod y_R_parts ∈ TBL := tbl_in (List.mem_append_right _ (List.mem_append_right _ (List.mem_of_getElem? (i := 96) (by rfl)))) rfl
theorem kV_y_R_parts : Cond.selects R_R y_R_parts y_R_parts ∈ TBL := tbl_in (List.mem_append_right _ (List.mem_append_right _ (List.mem_of_getElem? (i := 97) (by rfl)))) rfl
theorem kY_y_R_parts : Cond.code y_R_parts b_R_parts 3 (some .int) ∈ TBL := tbl_in (List.mem_append_right _ (List.mem_append_right _ (List.mem_of_getElem? (i := 98) (by rfl)))) rfl
theorem kL_R_75 : Cond.methodLink R_R 75 y_R_partOf ∈ TBL := tbl_in (List.mem_append_right _ (List.mem_append_right _ (List.mem_of_getElem? (i := 99) (by rfl)))) rfl
theorem kM_y_R_partOf : Cond.instanceMethod y_R_partOf ∈ TBL := tbl_in (List.mem_append_right _ (List.mem_append_right _ (List.mem_of_getElem? (i := 101) (by rfl)))) rfl
theorem kY_y_R_partOf : Cond.code y_R_partOf b_R_partOf 7 (some .int) ∈ TBL := tbl_in (List.mem_append_right _ (List.mem_append_right _ (List.mem_of_getElem? (i := 102) (by rfl)))) rfl
theorem kL_R_72 : Cond.methodLink R_R 72 y_R_touch ∈ TBL := tbl_in (List.mem_append_right _ (List.mem_append_right _ (List.mem_of_getElem? (i := 103) (by rfl)))) rfl
theorem kM_y_R_touch : Cond.instanceMethod y_R_touch ∈ TBL := tbl_in (List.mem_append_right _ (List.mem_append_right _ (List.mem_of_getElem? (i := 105) (by rfl)))) rfl
theorem kY_y_R_touch : Cond.code y_R_touch b_R_touch 3 (some .boolean) ∈ TBL := tbl_in (List.mem_append_right _ (List.mem_append_right _ (List.mem_of_getElem? (i := 106) (by rfl)))) rfl
theorem kL_L_39 : Cond.methodLink R_L 39 y_R_faces ∈ TBL := tbl_in (List.mem_append_right _ (List.mem_append_right _ (List.mem_of_getElem? (i := 107) (by rfl)))) rfl
theorem kM_y_R_faces : Cond.instanceMethod y_R_faces ∈ TBL := tbl_in (List.mem_append_right _ (List.mem_append_right _ (List.mem_of_getElem? (i := 108) (by rfl)))) rfl
theorem kV_y_R_faces : Cond.selects R_R y_R_faces y_R_faces ∈ TBL := tbl_in (List.mem_append_right _ (List.mem_append_right _ (List.mem_of_getElem? (i := 109) (by rfl)))) rfl
theorem kY_y_R_faces : Cond.code y_R_faces b_R_faces 4 (some .int) ∈ TBL := tbl_in (List.mem_append_right _ (List.mem_append_right _ (List.mem_of_getElem? (i := 110) (by rfl)))) rfl
theorem kL_R_125 : Cond.methodLink R_R 125 y_R_look ∈ TBL := tbl_in (List.mem_append_right _ (List.mem_append_right _ (List.mem_of_getElem? (i := 111) (by rfl)))) rfl
theorem kM_y_R_look : Cond.instanceMethod y_R_look ∈ TBL := tbl_in (List.mem_append_right _ (List.mem_append_right _ (List.mem_of_getElem? (i := 113) (by rfl)))) rfl
theorem kY_y_R_look : Cond.code y_R_look b_R_look 4 none ∈ TBL := tbl_in (List.mem_append_right _ (List.mem_append_right _ (List.mem_of_getElem? (i := 114) (by rfl)))) rfl
theorem kL_R_112 : Cond.methodLink R_R 112 y_R_addLine ∈ TBL := tbl_in (List.mem_append_right _ (List.mem_append_right _ (List.mem_of_getElem? (i := 115) (by rfl)))) rfl
theorem kM_y_R_addLine : Cond.instanceMethod y_R_addLine ∈ TBL := tbl_in (List.mem_append_right _ (List.mem_append_right _ (List.mem_of_getElem? (i := 117) (by rfl)))) rfl
theorem kY_y_R_addLine : Cond.code y_R_addLine b_R_addLine 4 none ∈ TBL := tbl_in (List.mem_append_right _ (List.mem_append_right _ (List.mem_of_getElem? (i := 118) (by rfl)))) rfl
theorem kL_R_116 : Cond.methodLink R_R 116 y_R_fill ∈ TBL := tbl_in (List.mem_append_right _ (List.mem_append_right _ (List.mem_of_getElem? (i := 119) (by rfl)))) rfl
theorem kM_y_R_fill : Cond.instanceMethod y_R_fill ∈ TBL := tbl_in (List.mem_append_right _ (List.mem_append_right _ (List.mem_of_getElem? (i := 121) (by rfl)))) rfl
theorem kY_y_R_fill : Cond.code y_R_fill b_R_fill 6 none ∈ TBL := tbl_in (List.mem_append_right _ (List.mem_append_right _ (List.mem_of_getElem? (i := 122) (by rfl)))) rfl
theorem kL_R_94 : Cond.methodLink R_R 94 y_R_below ∈ TBL := tbl_in (List.mem_append_right _ (List.mem_append_right _ (List.mem_of_getElem? (i := 123) (by rfl)))) rfl
theorem kM_y_R_below : Cond.instanceMethod y_R_below ∈ TBL := tbl_in (List.mem_append_right _ (List.mem_append_right _ (List.mem_of_getElem? (i := 125) (by rfl)))) rfl
theorem kY_y_R_below : Cond.code y_R_below b_R_below 6 (some .boolean) ∈ TBL := tbl_in (List.mem_append_right _ (List.mem_append_right _ (List.mem_of_getElem? (i := 126) (by rfl)))) rfl
theorem kL_R_82 : Cond.methodLink R_R 82 y_R_width ∈ TBL := tbl_in (List.mem_append_right _ (List.mem_append_right _ (List.mem_of_getElem? (i := 127) (by rfl)))) rfl
theorem kM_y_R_width : Cond.instanceMethod y_R_width ∈ TBL := tbl_in (List.mem_append_right _ (List.mem_append_right _ (List.mem_of_getElem? (i := 129) (by rfl)))) rfl
theorem kY_y_R_width : Cond.code y_R_width b_R_width 2 (some .int) ∈ TBL := tbl_in (List.mem_append_right _ (List.mem_append_right _ (List.mem_of_getElem? (i := 130) (by rfl)))) rfl
theorem kL_R_90 : Cond.methodLink R_R 90 y_R_less ∈ TBL := tbl_in (List.mem_append_right _ (List.mem_append_right _ (List.mem_of_getElem? (i := 131) (by rfl)))) rfl
theorem kS_y_R_less : Cond.static y_R_less ∈ TBL := tbl_in (List.mem_append_right _ (List.mem_append_right _ (List.mem_of_getElem? (i := 132) (by rfl)))) rfl
theorem kY_y_R_less : Cond.code y_R_less b_R_less 4 (some .boolean) ∈ TBL := tbl_in (List.mem_append_right _ (List.mem_append_right _ (List.mem_of_getElem? (i := 133) (by rfl)))) rfl
theorem kL_R_119 : Cond.methodLink R_R 119 y_R_open ∈ TBL := tbl_in (List.mem_append_right _ (List.mem_append_right _ (List.mem_of_getElem? (i := 134) (by rfl)))) rfl
theorem kM_y_R_open : Cond.instanceMethod y_R_open ∈ TBL := tbl_in (List.mem_append_right _ (List.mem_append_right _ (List.mem_of_getElem? (i := 136) (by rfl)))) rfl
theorem kY_y_R_open : Cond.code y_R_open b_R_open 16 (some .boolean) ∈ TBL := tbl_in (List.mem_append_right _ (List.mem_append_right _ (List.mem_of_getElem? (i := 137) (by rfl)))) rfl
theorem kL_R_97 : Cond.methodLink R_R 97 y_R_floorRise ∈ TBL := tbl_in (List.mem_append_right _ (List.mem_append_right _ (List.mem_of_getElem? (i := 138) (by rfl)))) rfl
theorem kM_y_R_floorRise : Cond.instanceMethod y_R_floorRise ∈ TBL := tbl_in (List.mem_append_right _ (List.mem_append_right _ (List.mem_of_getElem? (i := 140) (by rfl)))) rfl
theorem kY_y_R_floorRise : Cond.code y_R_floorRise b_R_floorRise 4 (some .int) ∈ TBL := tbl_in (List.mem_append_right _ (List.mem_append_right _ (List.mem_of_getElem? (i := 141) (by rfl)))) rfl
theorem kK_R_78 : Cond.constant R_R 78 (-1000000) ∈ TBL := tbl_in (List.mem_append_right _ (List.mem_append_right _ (List.mem_of_getElem? (i := 142) (by rfl)))) rfl
theorem kL_R_79 : Cond.methodLink R_R 79 y_R_rise ∈ TBL := tbl_in (List.mem_append_right _ (List.mem_append_right _ (List.mem_of_getElem? (i := 143) (by rfl)))) rfl
theorem kM_y_R_rise : Cond.instanceMethod y_R_rise ∈ TBL := tbl_in (List.mem_append_right _ (List.mem_append_right _ (List.mem_of_getElem? (i := 145) (by rfl)))) rfl
theorem kY_y_R_rise : Cond.code y_R_rise b_R_rise 3 (some .int) ∈ TBL := tbl_in (List.mem_append_right _ (List.mem_append_right _ (List.mem_of_getElem? (i := 146) (by rfl)))) rfl
theorem kL_R_100 : Cond.methodLink R_R 100 y_R_floorWidth ∈ TBL := tbl_in (List.mem_append_right _ (List.mem_append_right _ (List.mem_of_getElem? (i := 147) (by rfl)))) rfl
theorem kM_y_R_floorWidth : Cond.instanceMethod y_R_floorWidth ∈ TBL := tbl_in (List.mem_append_right _ (List.mem_append_right _ (List.mem_of_getElem? (i := 149) (by rfl)))) rfl
theorem kY_y_R_floorWidth : Cond.code y_R_floorWidth b_R_floorWidth 3 (some .int) ∈ TBL := tbl_in (List.mem_append_right _ (List.mem_append_right _ (List.mem_of_getElem? (i := 150) (by rfl)))) rfl
theorem kL_R_103 : Cond.methodLink R_R 103 y_R_roofRise ∈ TBL := tbl_in (List.mem_append_right _ (List.mem_append_right _ (List.mem_of_getElem? (i := 151) (by rfl)))) rfl
theorem kM_y_R_roofRise : Cond.instanceMethod y_R_roofRise ∈ TBL := tbl_in (List.mem_append_right _ (List.mem_append_right _ (List.mem_of_getElem? (i := 153) (by rfl)))) rfl
theorem kY_y_R_roofRise : Cond.code y_R_roofRise b_R_roofRise 4 (some .int) ∈ TBL := tbl_in (List.mem_append_right _ (List.mem_append_right _ (List.mem_of_getElem? (i := 154) (by rfl)))) rfl
theorem kK_R_85 : Cond.constant R_R 85 (1000000) ∈ TBL := tbl_in (List.mem_append_right _ (List.mem_append_right _ (List.mem_of_getElem? (i := 155) (by rfl)))) rfl
theorem kL_R_106 : Cond.methodLink R_R 106 y_R_roofWidth ∈ TBL := tbl_in (List.mem_append_right _ (List.mem_append_right _ (List.mem_of_getElem? (i := 156) (by rfl)))) rfl
theorem kM_y_R_roofWidth : Cond.instanceMethod y_R_roofWidth ∈ TBL := tbl_in (List.mem_append_right _ (List.mem_append_right _ (List.mem_of_getElem? (i := 158) (by rfl)))) rfl
theorem kY_y_R_roofWidth : Cond.code y_R_roofWidth b_R_roofWidth 3 (some .int) ∈ TBL := tbl_in (List.mem_append_right _ (List.mem_append_right _ (List.mem_of_getElem? (i := 159) (by rfl)))) rfl
theorem kL_R_109 : Cond.methodLink R_R 109 y_R_isUpright ∈ TBL := tbl_in (List.mem_append_right _ (List.mem_append_right _ (List.mem_of_getElem? (i := 160) (by rfl)))) rfl
theorem kM_y_R_isUpright : Cond.instanceMethod y_R_isUpright ∈ TBL := tbl_in (List.mem_append_right _ (List.mem_append_right _ (List.mem_of_getElem? (i := 162) (by rfl)))) rfl
theorem kY_y_R_isUpright : Cond.code y_R_isUpright b_R_isUpright 2 (some .boolean) ∈ TBL := tbl_in (List.mem_append_right _ (List.mem_append_right _ (List.mem_of_getElem? (i := 163) (by rfl)))) rfl
theorem kL_R_122 : Cond.methodLink R_R 122 y_R_face ∈ TBL := tbl_in (List.mem_append_right _ (List.mem_append_right _ (List.mem_of_getElem? (i := 164) (by rfl)))) rfl
theorem kM_y_R_face : Cond.instanceMethod y_R_face ∈ TBL := tbl_in (List.mem_append_right _ (List.mem_append_right _ (List.mem_of_getElem? (i := 166) (by rfl)))) rfl
theorem kY_y_R_face : Cond.code y_R_face b_R_face 3 (some .int) ∈ TBL := tbl_in (List.mem_append_right _ (List.mem_append_right _ (List.mem_of_getElem? (i := 167) (by rfl)))) rfl
theorem kL_L_44 : Cond.methodLink R_L 44 y_R_find ∈ TBL := tbl_in (List.mem_append_right _ (List.mem_append_right _ (List.mem_of_getElem? (i := 168) (by rfl)))) rfl
theorem kM_y_R_find : Cond.instanceMethod y_R_find ∈ TBL := tbl_in (List.mem_append_right _ (List.mem_append_right _ (List.mem_of_getElem? (i := 169) (by rfl)))) rfl
theorem kV_y_R_find : Cond.selects R_R y_R_find y_R_find ∈ TBL := tbl_in (List.mem_append_right _ (List.mem_append_right _ (List.mem_of_getElem? (i := 170) (by rfl)))) rfl
theorem kY_y_R_find : Cond.code y_R_find b_R_find 10 (some .int) ∈ TBL := tbl_in (List.mem_append_right _ (List.mem_append_right _ (List.mem_of_getElem? (i := 171) (by rfl)))) rfl
theorem kL_R_131 : Cond.methodLink R_R 131 y_R_endings ∈ TBL := tbl_in (List.mem_append_right _ (List.mem_append_right _ (List.mem_of_getElem? (i := 172) (by rfl)))) rfl
theorem kM_y_R_endings : Cond.instanceMethod y_R_endings ∈ TBL := tbl_in (List.mem_append_right _ (List.mem_append_right _ (List.mem_of_getElem? (i := 174) (by rfl)))) rfl
theorem kY_y_R_endings : Cond.code y_R_endings b_R_endings 5 (some .int) ∈ TBL := tbl_in (List.mem_append_right _ (List.mem_append_right _ (List.mem_of_getElem? (i := 175) (by rfl)))) rfl
theorem kL_L_49 : Cond.methodLink R_L 49 y_R_same ∈ TBL := tbl_in (List.mem_append_right _ (List.mem_append_right _ (List.mem_of_getElem? (i := 176) (by rfl)))) rfl
theorem kM_y_R_same : Cond.instanceMethod y_R_same ∈ TBL := tbl_in (List.mem_append_right _ (List.mem_append_right _ (List.mem_of_getElem? (i := 177) (by rfl)))) rfl
theorem kV_y_R_same : Cond.selects R_R y_R_same y_R_same ∈ TBL := tbl_in (List.mem_append_right _ (List.mem_append_right _ (List.mem_of_getElem? (i := 178) (by rfl)))) rfl
theorem kY_y_R_same : Cond.code y_R_same b_R_same 5 (some .boolean) ∈ TBL := tbl_in (List.mem_append_right _ (List.mem_append_right _ (List.mem_of_getElem? (i := 179) (by rfl)))) rfl
theorem kL_R_134 : Cond.methodLink R_R 134 y_R_isFree ∈ TBL := tbl_in (List.mem_append_right _ (List.mem_append_right _ (List.mem_of_getElem? (i := 180) (by rfl)))) rfl
theorem kM_y_R_isFree : Cond.instanceMethod y_R_isFree ∈ TBL := tbl_in (List.mem_append_right _ (List.mem_append_right _ (List.mem_of_getElem? (i := 182) (by rfl)))) rfl
theorem kY_y_R_isFree : Cond.code y_R_isFree b_R_isFree 5 (some .boolean) ∈ TBL := tbl_in (List.mem_append_right _ (List.mem_append_right _ (List.mem_of_getElem? (i := 183) (by rfl)))) rfl
theorem kL_R_137 : Cond.methodLink R_R 137 y_R_faceAt ∈ TBL := tbl_in (List.mem_append_right _ (List.mem_append_right _ (List.mem_of_getElem? (i := 184) (by rfl)))) rfl
theorem kM_y_R_faceAt : Cond.instanceMethod y_R_faceAt ∈ TBL := tbl_in (List.mem_append_right _ (List.mem_append_right _ (List.mem_of_getElem? (i := 186) (by rfl)))) rfl
theorem kY_y_R_faceAt : Cond.code y_R_faceAt b_R_faceAt 4 (some .int) ∈ TBL := tbl_in (List.mem_append_right _ (List.mem_append_right _ (List.mem_of_getElem? (i := 187) (by rfl)))) rfl
theorem kL_R_128 : Cond.methodLink R_R 128 y_R_cellAt ∈ TBL := tbl_in (List.mem_append_right _ (List.mem_append_right _ (List.mem_of_getElem? (i := 188) (by rfl)))) rfl
theorem kM_y_R_cellAt : Cond.instanceMethod y_R_cellAt ∈ TBL := tbl_in (List.mem_append_right _ (List.mem_append_right _ (List.mem_of_getElem? (i := 190) (by rfl)))) rfl
theorem kY_y_R_cellAt : Cond.code y_R_cellAt b_R_cellAt 7 (some .int) ∈ TBL := tbl_in (List.mem_append_right _ (List.mem_append_right _ (List.mem_of_getElem? (i := 191) (by rfl)))) rfl
theorem kL_L_53 : Cond.methodLink R_L 53 y_R_area ∈ TBL := tbl_in (List.mem_append_right _ (List.mem_append_right _ (List.mem_of_getElem? (i := 192) (by rfl)))) rfl
theorem kM_y_R_area : Cond.instanceMethod y_R_area ∈ TBL := tbl_in (List.mem_append_right _ (List.mem_append_right _ (List.mem_of_getElem? (i := 193) (by rfl)))) rfl
theorem kV_y_R_area : Cond.selects R_R y_R_area y_R_area ∈ TBL := tbl_in (List.mem_append_right _ (List.mem_append_right _ (List.mem_of_getElem? (i := 194) (by rfl)))) rfl
theorem kY_y_R_area : Cond.code y_R_area b_R_area 7 (some .int) ∈ TBL := tbl_in (List.mem_append_right _ (List.mem_append_right _ (List.mem_of_getElem? (i := 195) (by rfl)))) rfl
theorem kL_R_140 : Cond.methodLink R_R 140 y_R_refusal ∈ TBL := tbl_in (List.mem_append_right _ (List.mem_append_right _ (List.mem_of_getElem? (i := 196) (by rfl)))) rfl
theorem kM_y_R_refusal : Cond.instanceMethod y_R_refusal ∈ TBL := tbl_in (List.mem_append_right _ (List.mem_append_right _ (List.mem_of_getElem? (i := 198) (by rfl)))) rfl
theorem kY_y_R_refusal : Cond.code y_R_refusal b_R_refusal 3 (some .int) ∈ TBL := tbl_in (List.mem_append_right _ (List.mem_append_right _ (List.mem_of_getElem? (i := 199) (by rfl)))) rfl
theorem kL_R_143 : Cond.methodLink R_R 143 y_R_faceBy ∈ TBL := tbl_in (List.mem_append_right _ (List.mem_append_right _ (List.mem_of_getElem? (i := 200) (by rfl)))) rfl
theorem kM_y_R_faceBy : Cond.instanceMethod y_R_faceBy ∈ TBL := tbl_in (List.mem_append_right _ (List.mem_append_right _ (List.mem_of_getElem? (i := 202) (by rfl)))) rfl
theorem kY_y_R_faceBy : Cond.code y_R_faceBy b_R_faceBy 5 (some .int) ∈ TBL := tbl_in (List.mem_append_right _ (List.mem_append_right _ (List.mem_of_getElem? (i := 203) (by rfl)))) rfl
theorem kL_L_57 : Cond.methodLink R_L 57 y_R_border ∈ TBL := tbl_in (List.mem_append_right _ (List.mem_append_right _ (List.mem_of_getElem? (i := 204) (by rfl)))) rfl
theorem kM_y_R_border : Cond.instanceMethod y_R_border ∈ TBL := tbl_in (List.mem_append_right _ (List.mem_append_right _ (List.mem_of_getElem? (i := 205) (by rfl)))) rfl
theorem kV_y_R_border : Cond.selects R_R y_R_border y_R_border ∈ TBL := tbl_in (List.mem_append_right _ (List.mem_append_right _ (List.mem_of_getElem? (i := 206) (by rfl)))) rfl
theorem kY_y_R_border : Cond.code y_R_border b_R_border 7 (some .int) ∈ TBL := tbl_in (List.mem_append_right _ (List.mem_append_right _ (List.mem_of_getElem? (i := 207) (by rfl)))) rfl
theorem kL_R_146 : Cond.methodLink R_R 146 y_R_sides ∈ TBL := tbl_in (List.mem_append_right _ (List.mem_append_right _ (List.mem_of_getElem? (i := 208) (by rfl)))) rfl
theorem kM_y_R_sides : Cond.instanceMethod y_R_sides ∈ TBL := tbl_in (List.mem_append_right _ (List.mem_append_right _ (List.mem_of_getElem? (i := 210) (by rfl)))) rfl
theorem kY_y_R_sides : Cond.code y_R_sides b_R_sides 3 (some .int) ∈ TBL := tbl_in (List.mem_append_right _ (List.mem_append_right _ (List.mem_of_getElem? (i := 211) (by rfl)))) rfl
theorem kL_L_62 : Cond.methodLink R_L 62 y_R_touches ∈ TBL := tbl_in (List.mem_append_right _ (List.mem_append_right _ (List.mem_of_getElem? (i := 212) (by rfl)))) rfl
theorem kM_y_R_touches : Cond.instanceMethod y_R_touches ∈ TBL := tbl_in (List.mem_append_right _ (List.mem_append_right _ (List.mem_of_getElem? (i := 213) (by rfl)))) rfl
theorem kV_y_R_touches : Cond.selects R_R y_R_touches y_R_touches ∈ TBL := tbl_in (List.mem_append_right _ (List.mem_append_right _ (List.mem_of_getElem? (i := 214) (by rfl)))) rfl
theorem kY_y_R_touches : Cond.code y_R_touches b_R_touches 4 (some .int) ∈ TBL := tbl_in (List.mem_append_right _ (List.mem_append_right _ (List.mem_of_getElem? (i := 215) (by rfl)))) rfl
