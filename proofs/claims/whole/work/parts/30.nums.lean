/-! THE METHODS BY THEIR NUMBERS -/
theorem om_X0_addAtom : rm_P 0 = rm_p_X0_addAtom := rfl
theorem oo_X0_addAtom : (rm_P 0).2.2.2.2.2 = 0 := (congrArg (fun m : rm_M => m.2.2.2.2.2) om_X0_addAtom).trans rfl
theorem om_X0_distinctRoots : rm_P 1 = rm_p_X0_distinctRoots := rfl
theorem oo_X0_distinctRoots : (rm_P 1).2.2.2.2.2 = 0 := (congrArg (fun m : rm_M => m.2.2.2.2.2) om_X0_distinctRoots).trans rfl
theorem om_X0_foldRest : rm_P 2 = rm_p_X0_foldRest := rfl
theorem oo_X0_foldRest : (rm_P 2).2.2.2.2.2 = 0 := (congrArg (fun m : rm_M => m.2.2.2.2.2) om_X0_foldRest).trans rfl
theorem om_X0_multiplicity : rm_P 4 = rm_p_X0_multiplicity := rfl
theorem oo_X0_multiplicity : (rm_P 4).2.2.2.2.2 = 0 := (congrArg (fun m : rm_M => m.2.2.2.2.2) om_X0_multiplicity).trans rfl
theorem om_X0_sharedDegree : rm_P 5 = rm_p_X0_sharedDegree := rfl
theorem oo_X0_sharedDegree : (rm_P 5).2.2.2.2.2 = 0 := (congrArg (fun m : rm_M => m.2.2.2.2.2) om_X0_sharedDegree).trans rfl
theorem om_X0_splitOff : rm_P 6 = rm_p_X0_splitOff := rfl
theorem oo_X0_splitOff : (rm_P 6).2.2.2.2.2 = 0 := (congrArg (fun m : rm_M => m.2.2.2.2.2) om_X0_splitOff).trans rfl
theorem om_X1_add : rm_P 108 = rm_p_X1_add := rfl
theorem oo_X1_add : (rm_P 108).2.2.2.2.2 = 1 := (congrArg (fun m : rm_M => m.2.2.2.2.2) om_X1_add).trans rfl
theorem om_X1_bits : rm_P 109 = rm_p_X1_bits := rfl
theorem oo_X1_bits : (rm_P 109).2.2.2.2.2 = 1 := (congrArg (fun m : rm_M => m.2.2.2.2.2) om_X1_bits).trans rfl
theorem om_X1_compareSize : rm_P 110 = rm_p_X1_compareSize := rfl
theorem oo_X1_compareSize : (rm_P 110).2.2.2.2.2 = 1 := (congrArg (fun m : rm_M => m.2.2.2.2.2) om_X1_compareSize).trans rfl
theorem om_X1_copy : rm_P 111 = rm_p_X1_copy := rfl
theorem oo_X1_copy : (rm_P 111).2.2.2.2.2 = 1 := (congrArg (fun m : rm_M => m.2.2.2.2.2) om_X1_copy).trans rfl
theorem om_X1_grow : rm_P 112 = rm_p_X1_grow := rfl
theorem oo_X1_grow : (rm_P 112).2.2.2.2.2 = 1 := (congrArg (fun m : rm_M => m.2.2.2.2.2) om_X1_grow).trans rfl
theorem om_X1_isEven : rm_P 114 = rm_p_X1_isEven := rfl
theorem oo_X1_isEven : (rm_P 114).2.2.2.2.2 = 1 := (congrArg (fun m : rm_M => m.2.2.2.2.2) om_X1_isEven).trans rfl
theorem om_X1_set : rm_P 115 = rm_p_X1_set := rfl
theorem oo_X1_set : (rm_P 115).2.2.2.2.2 = 1 := (congrArg (fun m : rm_M => m.2.2.2.2.2) om_X1_set).trans rfl
theorem om_X1_setProduct : rm_P 116 = rm_p_X1_setProduct := rfl
theorem oo_X1_setProduct : (rm_P 116).2.2.2.2.2 = 1 := (congrArg (fun m : rm_M => m.2.2.2.2.2) om_X1_setProduct).trans rfl
theorem om_X1_shiftDown : rm_P 117 = rm_p_X1_shiftDown := rfl
theorem oo_X1_shiftDown : (rm_P 117).2.2.2.2.2 = 1 := (congrArg (fun m : rm_M => m.2.2.2.2.2) om_X1_shiftDown).trans rfl
theorem om_X1_shiftUp : rm_P 118 = rm_p_X1_shiftUp := rfl
theorem oo_X1_shiftUp : (rm_P 118).2.2.2.2.2 = 1 := (congrArg (fun m : rm_M => m.2.2.2.2.2) om_X1_shiftUp).trans rfl
theorem om_X1_shrink : rm_P 119 = rm_p_X1_shrink := rfl
theorem oo_X1_shrink : (rm_P 119).2.2.2.2.2 = 1 := (congrArg (fun m : rm_M => m.2.2.2.2.2) om_X1_shrink).trans rfl
theorem om_X1_toLong : rm_P 120 = rm_p_X1_toLong := rfl
theorem oo_X1_toLong : (rm_P 120).2.2.2.2.2 = 1 := (congrArg (fun m : rm_M => m.2.2.2.2.2) om_X1_toLong).trans rfl
theorem om_X1_trim : rm_P 121 = rm_p_X1_trim := rfl
theorem oo_X1_trim : (rm_P 121).2.2.2.2.2 = 1 := (congrArg (fun m : rm_M => m.2.2.2.2.2) om_X1_trim).trans rfl
theorem om_X1_width : rm_P 122 = rm_p_X1_width := rfl
theorem oo_X1_width : (rm_P 122).2.2.2.2.2 = 1 := (congrArg (fun m : rm_M => m.2.2.2.2.2) om_X1_width).trans rfl
theorem om_X2_degreeOf : rm_P 123 = rm_p_X2_degreeOf := rfl
theorem oo_X2_degreeOf : (rm_P 123).2.2.2.2.2 = 2 := (congrArg (fun m : rm_M => m.2.2.2.2.2) om_X2_degreeOf).trans rfl
theorem om_X2_divide : rm_P 124 = rm_p_X2_divide := rfl
theorem oo_X2_divide : (rm_P 124).2.2.2.2.2 = 2 := (congrArg (fun m : rm_M => m.2.2.2.2.2) om_X2_divide).trans rfl
theorem om_X2_eliminate : rm_P 125 = rm_p_X2_eliminate := rfl
theorem oo_X2_eliminate : (rm_P 125).2.2.2.2.2 = 2 := (congrArg (fun m : rm_M => m.2.2.2.2.2) om_X2_eliminate).trans rfl
theorem om_X2_find : rm_P 126 = rm_p_X2_find := rfl
theorem oo_X2_find : (rm_P 126).2.2.2.2.2 = 2 := (congrArg (fun m : rm_M => m.2.2.2.2.2) om_X2_find).trans rfl
theorem om_X2_imageModulo : rm_P 127 = rm_p_X2_imageModulo := rfl
theorem oo_X2_imageModulo : (rm_P 127).2.2.2.2.2 = 2 := (congrArg (fun m : rm_M => m.2.2.2.2.2) om_X2_imageModulo).trans rfl
theorem om_X2_inverse : rm_P 129 = rm_p_X2_inverse := rfl
theorem oo_X2_inverse : (rm_P 129).2.2.2.2.2 = 2 := (congrArg (fun m : rm_M => m.2.2.2.2.2) om_X2_inverse).trans rfl
theorem om_X2_rebuild : rm_P 130 = rm_p_X2_rebuild := rfl
theorem oo_X2_rebuild : (rm_P 130).2.2.2.2.2 = 2 := (congrArg (fun m : rm_M => m.2.2.2.2.2) om_X2_rebuild).trans rfl
theorem om_X3_compareDeeply : rm_P 131 = rm_p_X3_compareDeeply := rfl
theorem oo_X3_compareDeeply : (rm_P 131).2.2.2.2.2 = 3 := (congrArg (fun m : rm_M => m.2.2.2.2.2) om_X3_compareDeeply).trans rfl
theorem om_X3_compareQuickly : rm_P 132 = rm_p_X3_compareQuickly := rfl
theorem oo_X3_compareQuickly : (rm_P 132).2.2.2.2.2 = 3 := (congrArg (fun m : rm_M => m.2.2.2.2.2) om_X3_compareQuickly).trans rfl
theorem om_X3_compareWith : rm_P 133 = rm_p_X3_compareWith := rfl
theorem oo_X3_compareWith : (rm_P 133).2.2.2.2.2 = 3 := (congrArg (fun m : rm_M => m.2.2.2.2.2) om_X3_compareWith).trans rfl
theorem om_X3_giveOwnPiece : rm_P 134 = rm_p_X3_giveOwnPiece := rfl
theorem oo_X3_giveOwnPiece : (rm_P 134).2.2.2.2.2 = 3 := (congrArg (fun m : rm_M => m.2.2.2.2.2) om_X3_giveOwnPiece).trans rfl
theorem om_X3_guessJump : rm_P 135 = rm_p_X3_guessJump := rfl
theorem oo_X3_guessJump : (rm_P 135).2.2.2.2.2 = 3 := (congrArg (fun m : rm_M => m.2.2.2.2.2) om_X3_guessJump).trans rfl
theorem om_X3_readBinary : rm_P 137 = rm_p_X3_readBinary := rfl
theorem oo_X3_readBinary : (rm_P 137).2.2.2.2.2 = 3 := (congrArg (fun m : rm_M => m.2.2.2.2.2) om_X3_readBinary).trans rfl
theorem om_X3_readParts : rm_P 138 = rm_p_X3_readParts := rfl
theorem oo_X3_readParts : (rm_P 138).2.2.2.2.2 = 3 := (congrArg (fun m : rm_M => m.2.2.2.2.2) om_X3_readParts).trans rfl
theorem om_X3_scaledFloor : rm_P 139 = rm_p_X3_scaledFloor := rfl
theorem oo_X3_scaledFloor : (rm_P 139).2.2.2.2.2 = 3 := (congrArg (fun m : rm_M => m.2.2.2.2.2) om_X3_scaledFloor).trans rfl
theorem om_X3_setSigns : rm_P 140 = rm_p_X3_setSigns := rfl
theorem oo_X3_setSigns : (rm_P 140).2.2.2.2.2 = 3 := (congrArg (fun m : rm_M => m.2.2.2.2.2) om_X3_setSigns).trans rfl
theorem om_X3_setValue : rm_P 141 = rm_p_X3_setValue := rfl
theorem oo_X3_setValue : (rm_P 141).2.2.2.2.2 = 3 := (congrArg (fun m : rm_M => m.2.2.2.2.2) om_X3_setValue).trans rfl
theorem om_X3_settle : rm_P 142 = rm_p_X3_settle := rfl
theorem oo_X3_settle : (rm_P 142).2.2.2.2.2 = 3 := (congrArg (fun m : rm_M => m.2.2.2.2.2) om_X3_settle).trans rfl
theorem om_X3_sideOf : rm_P 143 = rm_p_X3_sideOf := rfl
theorem oo_X3_sideOf : (rm_P 143).2.2.2.2.2 = 3 := (congrArg (fun m : rm_M => m.2.2.2.2.2) om_X3_sideOf).trans rfl
theorem om_X3_signAtFraction : rm_P 144 = rm_p_X3_signAtFraction := rfl
theorem oo_X3_signAtFraction : (rm_P 144).2.2.2.2.2 = 3 := (congrArg (fun m : rm_M => m.2.2.2.2.2) om_X3_signAtFraction).trans rfl
theorem om_X3_solve : rm_P 145 = rm_p_X3_solve := rfl
theorem oo_X3_solve : (rm_P 145).2.2.2.2.2 = 3 := (congrArg (fun m : rm_M => m.2.2.2.2.2) om_X3_solve).trans rfl
theorem om_X3_take : rm_P 146 = rm_p_X3_take := rfl
theorem oo_X3_take : (rm_P 146).2.2.2.2.2 = 3 := (congrArg (fun m : rm_M => m.2.2.2.2.2) om_X3_take).trans rfl
theorem om_X3_tighten : rm_P 147 = rm_p_X3_tighten := rfl
theorem oo_X3_tighten : (rm_P 147).2.2.2.2.2 = 3 := (congrArg (fun m : rm_M => m.2.2.2.2.2) om_X3_tighten).trans rfl
theorem om_X3_tryFraction : rm_P 148 = rm_p_X3_tryFraction := rfl
theorem oo_X3_tryFraction : (rm_P 148).2.2.2.2.2 = 3 := (congrArg (fun m : rm_M => m.2.2.2.2.2) om_X3_tryFraction).trans rfl
theorem om_X4_descend : rm_P 149 = rm_p_X4_descend := rfl
theorem oo_X4_descend : (rm_P 149).2.2.2.2.2 = 4 := (congrArg (fun m : rm_M => m.2.2.2.2.2) om_X4_descend).trans rfl
theorem om_X4_fillAt : rm_P 150 = rm_p_X4_fillAt := rfl
theorem oo_X4_fillAt : (rm_P 150).2.2.2.2.2 = 4 := (congrArg (fun m : rm_M => m.2.2.2.2.2) om_X4_fillAt).trans rfl
theorem om_X4_fillBetween : rm_P 151 = rm_p_X4_fillBetween := rfl
theorem oo_X4_fillBetween : (rm_P 151).2.2.2.2.2 = 4 := (congrArg (fun m : rm_M => m.2.2.2.2.2) om_X4_fillBetween).trans rfl
theorem om_X4_fillCells : rm_P 152 = rm_p_X4_fillCells := rfl
theorem oo_X4_fillCells : (rm_P 152).2.2.2.2.2 = 4 := (congrArg (fun m : rm_M => m.2.2.2.2.2) om_X4_fillCells).trans rfl
theorem om_X4_fillSigns : rm_P 153 = rm_p_X4_fillSigns := rfl
theorem oo_X4_fillSigns : (rm_P 153).2.2.2.2.2 = 4 := (congrArg (fun m : rm_M => m.2.2.2.2.2) om_X4_fillSigns).trans rfl
theorem om_X4_insert : rm_P 155 = rm_p_X4_insert := rfl
theorem oo_X4_insert : (rm_P 155).2.2.2.2.2 = 4 := (congrArg (fun m : rm_M => m.2.2.2.2.2) om_X4_insert).trans rfl
theorem om_X4_locate : rm_P 156 = rm_p_X4_locate := rfl
theorem oo_X4_locate : (rm_P 156).2.2.2.2.2 = 4 := (congrArg (fun m : rm_M => m.2.2.2.2.2) om_X4_locate).trans rfl
theorem om_X4_rootAt : rm_P 157 = rm_p_X4_rootAt := rfl
theorem oo_X4_rootAt : (rm_P 157).2.2.2.2.2 = 4 := (congrArg (fun m : rm_M => m.2.2.2.2.2) om_X4_rootAt).trans rfl
theorem om_X4_rootsOf : rm_P 158 = rm_p_X4_rootsOf := rfl
theorem oo_X4_rootsOf : (rm_P 158).2.2.2.2.2 = 4 := (congrArg (fun m : rm_M => m.2.2.2.2.2) om_X4_rootsOf).trans rfl
theorem om_X4_trueAtoms : rm_P 159 = rm_p_X4_trueAtoms := rfl
theorem oo_X4_trueAtoms : (rm_P 159).2.2.2.2.2 = 4 := (congrArg (fun m : rm_M => m.2.2.2.2.2) om_X4_trueAtoms).trans rfl
theorem om_X5_begin : rm_P 160 = rm_p_X5_begin := rfl
theorem oo_X5_begin : (rm_P 160).2.2.2.2.2 = 5 := (congrArg (fun m : rm_M => m.2.2.2.2.2) om_X5_begin).trans rfl
theorem om_X5_changes : rm_P 161 = rm_p_X5_changes := rfl
theorem oo_X5_changes : (rm_P 161).2.2.2.2.2 = 5 := (congrArg (fun m : rm_M => m.2.2.2.2.2) om_X5_changes).trans rfl
theorem om_X5_dropZero : rm_P 162 = rm_p_X5_dropZero := rfl
theorem oo_X5_dropZero : (rm_P 162).2.2.2.2.2 = 5 := (congrArg (fun m : rm_M => m.2.2.2.2.2) om_X5_dropZero).trans rfl
theorem om_X5_halve : rm_P 163 = rm_p_X5_halve := rfl
theorem oo_X5_halve : (rm_P 163).2.2.2.2.2 = 5 := (congrArg (fun m : rm_M => m.2.2.2.2.2) om_X5_halve).trans rfl
theorem om_X5_mixed : rm_P 165 = rm_p_X5_mixed := rfl
theorem oo_X5_mixed : (rm_P 165).2.2.2.2.2 = 5 := (congrArg (fun m : rm_M => m.2.2.2.2.2) om_X5_mixed).trans rfl
theorem om_X5_moveBy : rm_P 166 = rm_p_X5_moveBy := rfl
theorem oo_X5_moveBy : (rm_P 166).2.2.2.2.2 = 5 := (congrArg (fun m : rm_M => m.2.2.2.2.2) om_X5_moveBy).trans rfl
theorem om_X5_part : rm_P 167 = rm_p_X5_part := rfl
theorem oo_X5_part : (rm_P 167).2.2.2.2.2 = 5 := (congrArg (fun m : rm_M => m.2.2.2.2.2) om_X5_part).trans rfl
theorem om_X5_reach : rm_P 168 = rm_p_X5_reach := rfl
theorem oo_X5_reach : (rm_P 168).2.2.2.2.2 = 5 := (congrArg (fun m : rm_M => m.2.2.2.2.2) om_X5_reach).trans rfl
theorem om_X5_stepOn : rm_P 169 = rm_p_X5_stepOn := rfl
theorem oo_X5_stepOn : (rm_P 169).2.2.2.2.2 = 5 := (congrArg (fun m : rm_M => m.2.2.2.2.2) om_X5_stepOn).trans rfl
theorem om_X6_copy : rm_P 170 = rm_p_X6_copy := rfl
theorem oo_X6_copy : (rm_P 170).2.2.2.2.2 = 6 := (congrArg (fun m : rm_M => m.2.2.2.2.2) om_X6_copy).trans rfl
theorem om_X6_gcd : rm_P 171 = rm_p_X6_gcd := rfl
theorem oo_X6_gcd : (rm_P 171).2.2.2.2.2 = 6 := (congrArg (fun m : rm_M => m.2.2.2.2.2) om_X6_gcd).trans rfl
theorem om_X6_lead : rm_P 173 = rm_p_X6_lead := rfl
theorem oo_X6_lead : (rm_P 173).2.2.2.2.2 = 6 := (congrArg (fun m : rm_M => m.2.2.2.2.2) om_X6_lead).trans rfl
theorem om_X6_makePrimitive : rm_P 174 = rm_p_X6_makePrimitive := rfl
theorem oo_X6_makePrimitive : (rm_P 174).2.2.2.2.2 = 6 := (congrArg (fun m : rm_M => m.2.2.2.2.2) om_X6_makePrimitive).trans rfl
theorem om_X6_measure : rm_P 175 = rm_p_X6_measure := rfl
theorem oo_X6_measure : (rm_P 175).2.2.2.2.2 = 6 := (congrArg (fun m : rm_M => m.2.2.2.2.2) om_X6_measure).trans rfl
theorem om_X6_setConstant : rm_P 176 = rm_p_X6_setConstant := rfl
theorem oo_X6_setConstant : (rm_P 176).2.2.2.2.2 = 6 := (congrArg (fun m : rm_M => m.2.2.2.2.2) om_X6_setConstant).trans rfl
theorem om_X6_setLinear : rm_P 177 = rm_p_X6_setLinear := rfl
theorem oo_X6_setLinear : (rm_P 177).2.2.2.2.2 = 6 := (congrArg (fun m : rm_M => m.2.2.2.2.2) om_X6_setLinear).trans rfl
theorem om_X6_setSlopeOf : rm_P 178 = rm_p_X6_setSlopeOf := rfl
theorem oo_X6_setSlopeOf : (rm_P 178).2.2.2.2.2 = 6 := (congrArg (fun m : rm_M => m.2.2.2.2.2) om_X6_setSlopeOf).trans rfl
theorem om_X7_accept : rm_P 179 = rm_p_X7_accept := rfl
theorem oo_X7_accept : (rm_P 179).2.2.2.2.2 = 7 := (congrArg (fun m : rm_M => m.2.2.2.2.2) om_X7_accept).trans rfl
theorem om_X7_addTo : rm_P 180 = rm_p_X7_addTo := rfl
theorem oo_X7_addTo : (rm_P 180).2.2.2.2.2 = 7 := (congrArg (fun m : rm_M => m.2.2.2.2.2) om_X7_addTo).trans rfl
theorem om_X7_emit : rm_P 181 = rm_p_X7_emit := rfl
theorem oo_X7_emit : (rm_P 181).2.2.2.2.2 = 7 := (congrArg (fun m : rm_M => m.2.2.2.2.2) om_X7_emit).trans rfl
theorem om_X7_expect : rm_P 182 = rm_p_X7_expect := rfl
theorem oo_X7_expect : (rm_P 182).2.2.2.2.2 = 7 := (congrArg (fun m : rm_M => m.2.2.2.2.2) om_X7_expect).trans rfl
theorem om_X7_fail : rm_P 183 = rm_p_X7_fail := rfl
theorem oo_X7_fail : (rm_P 183).2.2.2.2.2 = 7 := (congrArg (fun m : rm_M => m.2.2.2.2.2) om_X7_fail).trans rfl
theorem om_X7_fulfilledBy : rm_P 184 = rm_p_X7_fulfilledBy := rfl
theorem oo_X7_fulfilledBy : (rm_P 184).2.2.2.2.2 = 7 := (congrArg (fun m : rm_M => m.2.2.2.2.2) om_X7_fulfilledBy).trans rfl
theorem om_X7_isDigit : rm_P 186 = rm_p_X7_isDigit := rfl
theorem oo_X7_isDigit : (rm_P 186).2.2.2.2.2 = 7 := (congrArg (fun m : rm_M => m.2.2.2.2.2) om_X7_isDigit).trans rfl
theorem om_X7_look : rm_P 187 = rm_p_X7_look := rfl
theorem oo_X7_look : (rm_P 187).2.2.2.2.2 = 7 := (congrArg (fun m : rm_M => m.2.2.2.2.2) om_X7_look).trans rfl
theorem om_X7_multiply : rm_P 188 = rm_p_X7_multiply := rfl
theorem oo_X7_multiply : (rm_P 188).2.2.2.2.2 = 7 := (congrArg (fun m : rm_M => m.2.2.2.2.2) om_X7_multiply).trans rfl
theorem om_X7_negate : rm_P 189 = rm_p_X7_negate := rfl
theorem oo_X7_negate : (rm_P 189).2.2.2.2.2 = 7 := (congrArg (fun m : rm_M => m.2.2.2.2.2) om_X7_negate).trans rfl
theorem om_X7_raise : rm_P 190 = rm_p_X7_raise := rfl
theorem oo_X7_raise : (rm_P 190).2.2.2.2.2 = 7 := (congrArg (fun m : rm_M => m.2.2.2.2.2) om_X7_raise).trans rfl
theorem om_X7_read : rm_P 191 = rm_p_X7_read := rfl
theorem oo_X7_read : (rm_P 191).2.2.2.2.2 = 7 := (congrArg (fun m : rm_M => m.2.2.2.2.2) om_X7_read).trans rfl
theorem om_X7_readAll : rm_P 192 = rm_p_X7_readAll := rfl
theorem oo_X7_readAll : (rm_P 192).2.2.2.2.2 = 7 := (congrArg (fun m : rm_M => m.2.2.2.2.2) om_X7_readAll).trans rfl
theorem om_X7_readAtom : rm_P 193 = rm_p_X7_readAtom := rfl
theorem oo_X7_readAtom : (rm_P 193).2.2.2.2.2 = 7 := (congrArg (fun m : rm_M => m.2.2.2.2.2) om_X7_readAtom).trans rfl
theorem om_X7_readBase : rm_P 194 = rm_p_X7_readBase := rfl
theorem oo_X7_readBase : (rm_P 194).2.2.2.2.2 = 7 := (congrArg (fun m : rm_M => m.2.2.2.2.2) om_X7_readBase).trans rfl
theorem om_X7_readNumber : rm_P 195 = rm_p_X7_readNumber := rfl
theorem oo_X7_readNumber : (rm_P 195).2.2.2.2.2 = 7 := (congrArg (fun m : rm_M => m.2.2.2.2.2) om_X7_readNumber).trans rfl
theorem om_X7_readOne : rm_P 196 = rm_p_X7_readOne := rfl
theorem oo_X7_readOne : (rm_P 196).2.2.2.2.2 = 7 := (congrArg (fun m : rm_M => m.2.2.2.2.2) om_X7_readOne).trans rfl
theorem om_X7_readPower : rm_P 197 = rm_p_X7_readPower := rfl
theorem oo_X7_readPower : (rm_P 197).2.2.2.2.2 = 7 := (congrArg (fun m : rm_M => m.2.2.2.2.2) om_X7_readPower).trans rfl
theorem om_X7_readSum : rm_P 198 = rm_p_X7_readSum := rfl
theorem oo_X7_readSum : (rm_P 198).2.2.2.2.2 = 7 := (congrArg (fun m : rm_M => m.2.2.2.2.2) om_X7_readSum).trans rfl
theorem om_X7_readTerm : rm_P 199 = rm_p_X7_readTerm := rfl
theorem oo_X7_readTerm : (rm_P 199).2.2.2.2.2 = 7 := (congrArg (fun m : rm_M => m.2.2.2.2.2) om_X7_readTerm).trans rfl
theorem om_X7_readText : rm_P 200 = rm_p_X7_readText := rfl
theorem oo_X7_readText : (rm_P 200).2.2.2.2.2 = 7 := (congrArg (fun m : rm_M => m.2.2.2.2.2) om_X7_readText).trans rfl
theorem om_X7_slot : rm_P 201 = rm_p_X7_slot := rfl
theorem oo_X7_slot : (rm_P 201).2.2.2.2.2 = 7 := (congrArg (fun m : rm_M => m.2.2.2.2.2) om_X7_slot).trans rfl
theorem om_X7_step : rm_P 202 = rm_p_X7_step := rfl
theorem oo_X7_step : (rm_P 202).2.2.2.2.2 = 7 := (congrArg (fun m : rm_M => m.2.2.2.2.2) om_X7_step).trans rfl
theorem om_X8_setFraction : rm_P 204 = rm_p_X8_setFraction := rfl
theorem oo_X8_setFraction : (rm_P 204).2.2.2.2.2 = 8 := (congrArg (fun m : rm_M => m.2.2.2.2.2) om_X8_setFraction).trans rfl
theorem om_X8_start : rm_P 205 = rm_p_X8_start := rfl
theorem oo_X8_start : (rm_P 205).2.2.2.2.2 = 8 := (congrArg (fun m : rm_M => m.2.2.2.2.2) om_X8_start).trans rfl
theorem om_X9_atom : rm_P 206 = rm_p_X9_atom := rfl
theorem oo_X9_atom : (rm_P 206).2.2.2.2.2 = 9 := (congrArg (fun m : rm_M => m.2.2.2.2.2) om_X9_atom).trans rfl
theorem om_X9_cellOf : rm_P 207 = rm_p_X9_cellOf := rfl
theorem oo_X9_cellOf : (rm_P 207).2.2.2.2.2 = 9 := (congrArg (fun m : rm_M => m.2.2.2.2.2) om_X9_cellOf).trans rfl
theorem om_X9_common : rm_P 208 = rm_p_X9_common := rfl
theorem oo_X9_common : (rm_P 208).2.2.2.2.2 = 9 := (congrArg (fun m : rm_M => m.2.2.2.2.2) om_X9_common).trans rfl
theorem om_X9_count : rm_P 209 = rm_p_X9_count := rfl
theorem oo_X9_count : (rm_P 209).2.2.2.2.2 = 9 := (congrArg (fun m : rm_M => m.2.2.2.2.2) om_X9_count).trans rfl
theorem om_X9_exact : rm_P 210 = rm_p_X9_exact := rfl
theorem oo_X9_exact : (rm_P 210).2.2.2.2.2 = 9 := (congrArg (fun m : rm_M => m.2.2.2.2.2) om_X9_exact).trans rfl
theorem om_X9_four : rm_P 211 = rm_p_X9_four := rfl
theorem oo_X9_four : (rm_P 211).2.2.2.2.2 = 9 := (congrArg (fun m : rm_M => m.2.2.2.2.2) om_X9_four).trans rfl
theorem om_X9_holds : rm_P 212 = rm_p_X9_holds := rfl
theorem oo_X9_holds : (rm_P 212).2.2.2.2.2 = 9 := (congrArg (fun m : rm_M => m.2.2.2.2.2) om_X9_holds).trans rfl
theorem om_X9_isAtom : rm_P 214 = rm_p_X9_isAtom := rfl
theorem oo_X9_isAtom : (rm_P 214).2.2.2.2.2 = 9 := (congrArg (fun m : rm_M => m.2.2.2.2.2) om_X9_isAtom).trans rfl
theorem om_X9_isCell : rm_P 215 = rm_p_X9_isCell := rfl
theorem oo_X9_isCell : (rm_P 215).2.2.2.2.2 = 9 := (congrArg (fun m : rm_M => m.2.2.2.2.2) om_X9_isCell).trans rfl
theorem om_X9_isFraction : rm_P 216 = rm_p_X9_isFraction := rfl
theorem oo_X9_isFraction : (rm_P 216).2.2.2.2.2 = 9 := (congrArg (fun m : rm_M => m.2.2.2.2.2) om_X9_isFraction).trans rfl
theorem om_X9_isRoot : rm_P 217 = rm_p_X9_isRoot := rfl
theorem oo_X9_isRoot : (rm_P 217).2.2.2.2.2 = 9 := (congrArg (fun m : rm_M => m.2.2.2.2.2) om_X9_isRoot).trans rfl
theorem om_X9_isSign : rm_P 218 = rm_p_X9_isSign := rfl
theorem oo_X9_isSign : (rm_P 218).2.2.2.2.2 = 9 := (congrArg (fun m : rm_M => m.2.2.2.2.2) om_X9_isSign).trans rfl
theorem om_X9_judge : rm_P 219 = rm_p_X9_judge := rfl
theorem oo_X9_judge : (rm_P 219).2.2.2.2.2 = 9 := (congrArg (fun m : rm_M => m.2.2.2.2.2) om_X9_judge).trans rfl
theorem om_X9_load : rm_P 220 = rm_p_X9_load := rfl
theorem oo_X9_load : (rm_P 220).2.2.2.2.2 = 9 := (congrArg (fun m : rm_M => m.2.2.2.2.2) om_X9_load).trans rfl
theorem om_X9_root : rm_P 221 = rm_p_X9_root := rfl
theorem oo_X9_root : (rm_P 221).2.2.2.2.2 = 9 := (congrArg (fun m : rm_M => m.2.2.2.2.2) om_X9_root).trans rfl
theorem om_X9_sign : rm_P 222 = rm_p_X9_sign := rfl
theorem oo_X9_sign : (rm_P 222).2.2.2.2.2 = 9 := (congrArg (fun m : rm_M => m.2.2.2.2.2) om_X9_sign).trans rfl
theorem om_X9_signAt : rm_P 223 = rm_p_X9_signAt := rfl
theorem oo_X9_signAt : (rm_P 223).2.2.2.2.2 = 9 := (congrArg (fun m : rm_M => m.2.2.2.2.2) om_X9_signAt).trans rfl
theorem om_X9_simple : rm_P 224 = rm_p_X9_simple := rfl
theorem oo_X9_simple : (rm_P 224).2.2.2.2.2 = 9 := (congrArg (fun m : rm_M => m.2.2.2.2.2) om_X9_simple).trans rfl
theorem om_X9_times : rm_P 225 = rm_p_X9_times := rfl
theorem oo_X9_times : (rm_P 225).2.2.2.2.2 = 9 := (congrArg (fun m : rm_M => m.2.2.2.2.2) om_X9_times).trans rfl
theorem om_X9_type : rm_P 226 = rm_p_X9_type := rfl
theorem oo_X9_type : (rm_P 226).2.2.2.2.2 = 9 := (congrArg (fun m : rm_M => m.2.2.2.2.2) om_X9_type).trans rfl
theorem om_J0_coder_7d493 : rm_P 227 = rm_p_J0_coder_7d493 := rfl
theorem oo_J0_coder_7d493 : (rm_P 227).2.2.2.2.2 = 99 := (congrArg (fun m : rm_M => m.2.2.2.2.2) om_J0_coder_7d493).trans rfl
theorem om_J0_indexOf_0f7a4 : rm_P 228 = rm_p_J0_indexOf_0f7a4 := rfl
theorem oo_J0_indexOf_0f7a4 : (rm_P 228).2.2.2.2.2 = 99 := (congrArg (fun m : rm_M => m.2.2.2.2.2) om_J0_indexOf_0f7a4).trans rfl
theorem om_J0_indexOf_7cf53 : rm_P 229 = rm_p_J0_indexOf_7cf53 := rfl
theorem oo_J0_indexOf_7cf53 : (rm_P 229).2.2.2.2.2 = 99 := (congrArg (fun m : rm_M => m.2.2.2.2.2) om_J0_indexOf_7cf53).trans rfl
theorem om_J0_isLatin1_aae02 : rm_P 230 = rm_p_J0_isLatin1_aae02 := rfl
theorem oo_J0_isLatin1_aae02 : (rm_P 230).2.2.2.2.2 = 99 := (congrArg (fun m : rm_M => m.2.2.2.2.2) om_J0_isLatin1_aae02).trans rfl
theorem om_J0_length_8abf5 : rm_P 231 = rm_p_J0_length_8abf5 := rfl
theorem oo_J0_length_8abf5 : (rm_P 231).2.2.2.2.2 = 99 := (congrArg (fun m : rm_M => m.2.2.2.2.2) om_J0_length_8abf5).trans rfl
theorem om_J13_compare_74951 : rm_P 232 = rm_p_J13_compare_74951 := rfl
theorem oo_J13_compare_74951 : (rm_P 232).2.2.2.2.2 = 99 := (congrArg (fun m : rm_M => m.2.2.2.2.2) om_J13_compare_74951).trans rfl
theorem om_J1_canEncode_9a6ad : rm_P 233 = rm_p_J1_canEncode_9a6ad := rfl
theorem oo_J1_canEncode_9a6ad : (rm_P 233).2.2.2.2.2 = 99 := (congrArg (fun m : rm_M => m.2.2.2.2.2) om_J1_canEncode_9a6ad).trans rfl
theorem om_J1_indexOfChar_4cfef : rm_P 234 = rm_p_J1_indexOfChar_4cfef := rfl
theorem oo_J1_indexOfChar_4cfef : (rm_P 234).2.2.2.2.2 = 99 := (congrArg (fun m : rm_M => m.2.2.2.2.2) om_J1_indexOfChar_4cfef).trans rfl
theorem om_J1_indexOf_4cfef : rm_P 235 = rm_p_J1_indexOf_4cfef := rfl
theorem oo_J1_indexOf_4cfef : (rm_P 235).2.2.2.2.2 = 99 := (congrArg (fun m : rm_M => m.2.2.2.2.2) om_J1_indexOf_4cfef).trans rfl
theorem om_J9_abs_067f4 : rm_P 236 = rm_p_J9_abs_067f4 := rfl
theorem oo_J9_abs_067f4 : (rm_P 236).2.2.2.2.2 = 99 := (congrArg (fun m : rm_M => m.2.2.2.2.2) om_J9_abs_067f4).trans rfl
theorem om_J9_abs_0f7a4 : rm_P 237 = rm_p_J9_abs_0f7a4 := rfl
theorem oo_J9_abs_0f7a4 : (rm_P 237).2.2.2.2.2 = 99 := (congrArg (fun m : rm_M => m.2.2.2.2.2) om_J9_abs_0f7a4).trans rfl
theorem om_J9_floorDiv_7cf53 : rm_P 238 = rm_p_J9_floorDiv_7cf53 := rfl
theorem oo_J9_floorDiv_7cf53 : (rm_P 238).2.2.2.2.2 = 99 := (congrArg (fun m : rm_M => m.2.2.2.2.2) om_J9_floorDiv_7cf53).trans rfl
theorem om_J9_floorDiv_f86c9 : rm_P 239 = rm_p_J9_floorDiv_f86c9 := rfl
theorem oo_J9_floorDiv_f86c9 : (rm_P 239).2.2.2.2.2 = 99 := (congrArg (fun m : rm_M => m.2.2.2.2.2) om_J9_floorDiv_f86c9).trans rfl
theorem om_J9_floorMod_7cf53 : rm_P 240 = rm_p_J9_floorMod_7cf53 := rfl
theorem oo_J9_floorMod_7cf53 : (rm_P 240).2.2.2.2.2 = 99 := (congrArg (fun m : rm_M => m.2.2.2.2.2) om_J9_floorMod_7cf53).trans rfl
theorem om_J9_floorMod_f86c9 : rm_P 241 = rm_p_J9_floorMod_f86c9 := rfl
theorem oo_J9_floorMod_f86c9 : (rm_P 241).2.2.2.2.2 = 99 := (congrArg (fun m : rm_M => m.2.2.2.2.2) om_J9_floorMod_f86c9).trans rfl
theorem om_J9_max_7cf53 : rm_P 242 = rm_p_J9_max_7cf53 := rfl
theorem oo_J9_max_7cf53 : (rm_P 242).2.2.2.2.2 = 99 := (congrArg (fun m : rm_M => m.2.2.2.2.2) om_J9_max_7cf53).trans rfl
theorem om_J9_max_f86c9 : rm_P 243 = rm_p_J9_max_f86c9 := rfl
theorem oo_J9_max_f86c9 : (rm_P 243).2.2.2.2.2 = 99 := (congrArg (fun m : rm_M => m.2.2.2.2.2) om_J9_max_f86c9).trans rfl
theorem om_J9_min_7cf53 : rm_P 244 = rm_p_J9_min_7cf53 := rfl
theorem oo_J9_min_7cf53 : (rm_P 244).2.2.2.2.2 = 99 := (congrArg (fun m : rm_M => m.2.2.2.2.2) om_J9_min_7cf53).trans rfl
