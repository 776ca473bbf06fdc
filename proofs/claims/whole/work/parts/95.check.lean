/-! ===== each block is the code's ===== -/
set_option maxRecDepth 100000 in
theorem zk_C_dig : zchkM 0 zp_C_dig = true := by decide +kernel
set_option maxRecDepth 100000 in
theorem zk_C_fill : zchkM 1 zp_C_fill = true := by decide +kernel
set_option maxRecDepth 100000 in
theorem zk_C_roof : zchkM 2 zp_C_roof = true := by decide +kernel
set_option maxRecDepth 100000 in
theorem zk_C_undo : zchkM 3 zp_C_undo = true := by decide +kernel
set_option maxRecDepth 100000 in
theorem zk_C_own : zchkM 4 zp_C_own = true := by decide +kernel
set_option maxRecDepth 100000 in
theorem zk_C_rate : zchkM 5 zp_C_rate = true := by decide +kernel
set_option maxRecDepth 100000 in
theorem zk_C_told : zchkM 6 zp_C_told = true := by decide +kernel
set_option maxRecDepth 100000 in
theorem zk_C_type : zchkM 7 zp_C_type = true := by decide +kernel
set_option maxRecDepth 100000 in
theorem zk_C_ground : zchkM 8 zp_C_ground = true := by decide +kernel
set_option maxRecDepth 100000 in
theorem zk_C_owners : zchkM 9 zp_C_owners = true := by decide +kernel
set_option maxRecDepth 100000 in
theorem zk_C_day : zchkM 10 zp_C_day = true := by decide +kernel
set_option maxRecDepth 100000 in
theorem zk_C_count : zchkM 11 zp_C_count = true := by decide +kernel
set_option maxRecDepth 100000 in
theorem zk_C_hole : zchkM 12 zp_C_hole = true := by decide +kernel
set_option maxRecDepth 100000 in
theorem zk_C_cells : zchkM 13 zp_C_cells = true := by decide +kernel
set_option maxRecDepth 100000 in
theorem zk_C_part : zchkM 14 zp_C_part = true := by decide +kernel
set_option maxRecDepth 100000 in
theorem zk_C_pays : zchkM 15 zp_C_pays = true := by decide +kernel
set_option maxRecDepth 100000 in
theorem zk_C_worth : zchkM 16 zp_C_worth = true := by decide +kernel
set_option maxRecDepth 100000 in
theorem zk_C_filled : zchkM 17 zp_C_filled = true := by decide +kernel
set_option maxRecDepth 100000 in
theorem zk_C_split : zchkM 18 zp_C_split = true := by decide +kernel
set_option maxRecDepth 100000 in
theorem zk_C_dug : zchkM 19 zp_C_dug = true := by decide +kernel
set_option maxRecDepth 100000 in
theorem zk_C_loophole : zchkM 20 zp_C_loophole = true := by decide +kernel
set_option maxRecDepth 100000 in
theorem zk_C_roofs : zchkM 21 zp_C_roofs = true := by decide +kernel
set_option maxRecDepth 100000 in
theorem zk_C_round : zchkM 22 zp_C_round = true := by decide +kernel
set_option maxRecDepth 100000 in
theorem zk_C_border : zchkM 23 zp_C_border = true := by decide +kernel
set_option maxRecDepth 100000 in
theorem zk_C_cut : zchkM 24 zp_C_cut = true := by decide +kernel
set_option maxRecDepth 100000 in
theorem zk_C_books : zchkM 25 zp_C_books = true := by decide +kernel
set_option maxRecDepth 100000 in
theorem zk_C_lots : zchkM 26 zp_C_lots = true := by decide +kernel
set_option maxRecDepth 100000 in
theorem zk_C_seed : zchkM 27 zp_C_seed = true := by decide +kernel
set_option maxRecDepth 100000 in
theorem zk_C_image : zchkM 28 zp_C_image = true := by decide +kernel
set_option maxRecDepth 100000 in
theorem zk_C_restore : zchkM 29 zp_C_restore = true := by decide +kernel
set_option maxRecDepth 100000 in
theorem zk_C_lay : zchkM 30 zp_C_lay = true := by decide +kernel
set_option maxRecDepth 100000 in
theorem zk_C_film : zchkM 31 zp_C_film = true := by decide +kernel
set_option maxRecDepth 100000 in
theorem zk_C_miscounted : zchkM 32 zp_C_miscounted = true := by decide +kernel
set_option maxRecDepth 100000 in
theorem zk_C_sheet : zchkM 33 zp_C_sheet = true := by decide +kernel
set_option maxRecDepth 100000 in
theorem zk_C_drop : zchkM 34 zp_C_drop = true := by decide +kernel
set_option maxRecDepth 100000 in
theorem zk_C_item : zchkM 35 zp_C_item = true := by decide +kernel
set_option maxRecDepth 100000 in
theorem zk_C_copy : zchkM 36 zp_C_copy = true := by decide +kernel
set_option maxRecDepth 100000 in
theorem zk_C_isCell : zchkM 37 zp_C_isCell = true := by decide +kernel
set_option maxRecDepth 100000 in
theorem zk_C_isOwner : zchkM 38 zp_C_isOwner = true := by decide +kernel
set_option maxRecDepth 100000 in
theorem zk_C_isSheet : zchkM 39 zp_C_isSheet = true := by decide +kernel
set_option maxRecDepth 100000 in
theorem zk_C_isLane : zchkM 40 zp_C_isLane = true := by decide +kernel
set_option maxRecDepth 100000 in
theorem zk_C_refusal : zchkM 41 zp_C_refusal = true := by decide +kernel
set_option maxRecDepth 100000 in
theorem zk_C_isRight : zchkM 42 zp_C_isRight = true := by decide +kernel
set_option maxRecDepth 100000 in
theorem zk_C_pick : zchkM 43 zp_C_pick = true := by decide +kernel
set_option maxRecDepth 100000 in
theorem zk_N_in : zchkM 44 zp_N_in = true := by decide +kernel
set_option maxRecDepth 100000 in
theorem zk_N_isCell : zchkM 45 zp_N_isCell = true := by decide +kernel
set_option maxRecDepth 100000 in
theorem zk_N_has : zchkM 46 zp_N_has = true := by decide +kernel
set_option maxRecDepth 100000 in
theorem zk_N_ones : zchkM 47 zp_N_ones = true := by decide +kernel
set_option maxRecDepth 100000 in
theorem zk_N_least : zchkM 48 zp_N_least = true := by decide +kernel
set_option maxRecDepth 100000 in
theorem zk_N_look : zchkM 49 zp_N_look = true := by decide +kernel
set_option maxRecDepth 100000 in
theorem zk_N_beside : zchkM 50 zp_N_beside = true := by decide +kernel
set_option maxRecDepth 100000 in
theorem zk_N_grown : zchkM 51 zp_N_grown = true := by decide +kernel
set_option maxRecDepth 100000 in
theorem zk_N_holeAt : zchkM 52 zp_N_holeAt = true := by decide +kernel
set_option maxRecDepth 100000 in
theorem zk_N_rimOf : zchkM 53 zp_N_rimOf = true := by decide +kernel
set_option maxRecDepth 100000 in
theorem zk_N_fenceOf : zchkM 54 zp_N_fenceOf = true := by decide +kernel
set_option maxRecDepth 100000 in
theorem zk_N_edge : zchkM 55 zp_N_edge = true := by decide +kernel
set_option maxRecDepth 100000 in
theorem zk_N_withinOf : zchkM 56 zp_N_withinOf = true := by decide +kernel
set_option maxRecDepth 100000 in
theorem zk_N_kindOf : zchkM 57 zp_N_kindOf = true := by decide +kernel
set_option maxRecDepth 100000 in
theorem zk_N_taxOf : zchkM 58 zp_N_taxOf = true := by decide +kernel
set_option maxRecDepth 100000 in
theorem zk_N_findHoles : zchkM 59 zp_N_findHoles = true := by decide +kernel
set_option maxRecDepth 100000 in
theorem zk_N_taxOfAll : zchkM 60 zp_N_taxOfAll = true := by decide +kernel
set_option maxRecDepth 100000 in
theorem zk_N_note : zchkM 61 zp_N_note = true := by decide +kernel
set_option maxRecDepth 100000 in
theorem zk_N_put : zchkM 62 zp_N_put = true := by decide +kernel
set_option maxRecDepth 100000 in
theorem zk_N_dig : zchkM 63 zp_N_dig = true := by decide +kernel
set_option maxRecDepth 100000 in
theorem zk_N_fill : zchkM 64 zp_N_fill = true := by decide +kernel
set_option maxRecDepth 100000 in
theorem zk_N_roof : zchkM 65 zp_N_roof = true := by decide +kernel
set_option maxRecDepth 100000 in
theorem zk_N_undo : zchkM 66 zp_N_undo = true := by decide +kernel
set_option maxRecDepth 100000 in
theorem zk_N_own : zchkM 67 zp_N_own = true := by decide +kernel
set_option maxRecDepth 100000 in
theorem zk_N_rate : zchkM 68 zp_N_rate = true := by decide +kernel
set_option maxRecDepth 100000 in
theorem zk_N_told : zchkM 69 zp_N_told = true := by decide +kernel
set_option maxRecDepth 100000 in
theorem zk_N_type : zchkM 70 zp_N_type = true := by decide +kernel
set_option maxRecDepth 100000 in
theorem zk_N_nextLetter : zchkM 71 zp_N_nextLetter = true := by decide +kernel
set_option maxRecDepth 100000 in
theorem zk_N_takes : zchkM 72 zp_N_takes = true := by decide +kernel
set_option maxRecDepth 100000 in
theorem zk_N_end : zchkM 73 zp_N_end = true := by decide +kernel
set_option maxRecDepth 100000 in
theorem zk_N_readGround : zchkM 74 zp_N_readGround = true := by decide +kernel
set_option maxRecDepth 100000 in
theorem zk_N_ground : zchkM 75 zp_N_ground = true := by decide +kernel
set_option maxRecDepth 100000 in
theorem zk_N_readOwners : zchkM 76 zp_N_readOwners = true := by decide +kernel
set_option maxRecDepth 100000 in
theorem zk_N_owners : zchkM 77 zp_N_owners = true := by decide +kernel
set_option maxRecDepth 100000 in
theorem zk_N_readAct : zchkM 78 zp_N_readAct = true := by decide +kernel
set_option maxRecDepth 100000 in
theorem zk_N_readDay : zchkM 79 zp_N_readDay = true := by decide +kernel
set_option maxRecDepth 100000 in
theorem zk_N_day : zchkM 80 zp_N_day = true := by decide +kernel
set_option maxRecDepth 100000 in
theorem zk_N_count : zchkM 81 zp_N_count = true := by decide +kernel
set_option maxRecDepth 100000 in
theorem zk_N_owned : zchkM 82 zp_N_owned = true := by decide +kernel
set_option maxRecDepth 100000 in
theorem zk_N_ownerOf : zchkM 83 zp_N_ownerOf = true := by decide +kernel
set_option maxRecDepth 100000 in
theorem zk_N_nestedOf : zchkM 84 zp_N_nestedOf = true := by decide +kernel
set_option maxRecDepth 100000 in
theorem zk_N_largestOf : zchkM 85 zp_N_largestOf = true := by decide +kernel
set_option maxRecDepth 100000 in
theorem zk_N_hole : zchkM 86 zp_N_hole = true := by decide +kernel
set_option maxRecDepth 100000 in
theorem zk_N_cells : zchkM 87 zp_N_cells = true := by decide +kernel
set_option maxRecDepth 100000 in
theorem zk_N_partOf : zchkM 88 zp_N_partOf = true := by decide +kernel
set_option maxRecDepth 100000 in
theorem zk_N_part : zchkM 89 zp_N_part = true := by decide +kernel
set_option maxRecDepth 100000 in
theorem zk_N_pays : zchkM 90 zp_N_pays = true := by decide +kernel
set_option maxRecDepth 100000 in
theorem zk_N_worth : zchkM 91 zp_N_worth = true := by decide +kernel
set_option maxRecDepth 100000 in
theorem zk_N_filled : zchkM 92 zp_N_filled = true := by decide +kernel
set_option maxRecDepth 100000 in
theorem zk_N_fewestFilled : zchkM 93 zp_N_fewestFilled = true := by decide +kernel
set_option maxRecDepth 100000 in
theorem zk_N_does : zchkM 94 zp_N_does = true := by decide +kernel
set_option maxRecDepth 100000 in
theorem zk_N_split : zchkM 95 zp_N_split = true := by decide +kernel
set_option maxRecDepth 100000 in
theorem zk_N_fewestDug : zchkM 96 zp_N_fewestDug = true := by decide +kernel
set_option maxRecDepth 100000 in
theorem zk_N_dug : zchkM 97 zp_N_dug = true := by decide +kernel
set_option maxRecDepth 100000 in
theorem zk_N_loophole : zchkM 98 zp_N_loophole = true := by decide +kernel
set_option maxRecDepth 100000 in
theorem zk_N_roofs : zchkM 99 zp_N_roofs = true := by decide +kernel
set_option maxRecDepth 100000 in
theorem zk_N_nextOrder : zchkM 100 zp_N_nextOrder = true := by decide +kernel
set_option maxRecDepth 100000 in
theorem zk_N_off : zchkM 101 zp_N_off = true := by decide +kernel
set_option maxRecDepth 100000 in
theorem zk_N_apart : zchkM 102 zp_N_apart = true := by decide +kernel
set_option maxRecDepth 100000 in
theorem zk_N_nearest : zchkM 103 zp_N_nearest = true := by decide +kernel
set_option maxRecDepth 100000 in
theorem zk_N_stepsOf : zchkM 104 zp_N_stepsOf = true := by decide +kernel
set_option maxRecDepth 100000 in
theorem zk_N_round : zchkM 105 zp_N_round = true := by decide +kernel
set_option maxRecDepth 100000 in
theorem zk_N_border : zchkM 106 zp_N_border = true := by decide +kernel
set_option maxRecDepth 100000 in
theorem zk_N_cut : zchkM 107 zp_N_cut = true := by decide +kernel
set_option maxRecDepth 100000 in
theorem zk_N_books : zchkM 108 zp_N_books = true := by decide +kernel
set_option maxRecDepth 100000 in
theorem zk_N_nextDraw : zchkM 109 zp_N_nextDraw = true := by decide +kernel
set_option maxRecDepth 100000 in
theorem zk_N_lots : zchkM 110 zp_N_lots = true := by decide +kernel
set_option maxRecDepth 100000 in
theorem zk_N_seed : zchkM 111 zp_N_seed = true := by decide +kernel
set_option maxRecDepth 100000 in
theorem zk_N_carried : zchkM 112 zp_N_carried = true := by decide +kernel
set_option maxRecDepth 100000 in
theorem zk_N_image : zchkM 113 zp_N_image = true := by decide +kernel
set_option maxRecDepth 100000 in
theorem zk_N_restore : zchkM 114 zp_N_restore = true := by decide +kernel
set_option maxRecDepth 100000 in
theorem zk_N_isSheet : zchkM 115 zp_N_isSheet = true := by decide +kernel
set_option maxRecDepth 100000 in
theorem zk_N_asLane : zchkM 116 zp_N_asLane = true := by decide +kernel
set_option maxRecDepth 100000 in
theorem zk_N_sheet : zchkM 117 zp_N_sheet = true := by decide +kernel
set_option maxRecDepth 100000 in
theorem zk_N_drop : zchkM 118 zp_N_drop = true := by decide +kernel
set_option maxRecDepth 100000 in
theorem zk_N_lacksRow : zchkM 119 zp_N_lacksRow = true := by decide +kernel
set_option maxRecDepth 100000 in
theorem zk_N_item : zchkM 120 zp_N_item = true := by decide +kernel
set_option maxRecDepth 100000 in
theorem zk_N_lay : zchkM 121 zp_N_lay = true := by decide +kernel
set_option maxRecDepth 100000 in
theorem zk_N_film : zchkM 122 zp_N_film = true := by decide +kernel
set_option maxRecDepth 100000 in
theorem zk_N_miscounted : zchkM 123 zp_N_miscounted = true := by decide +kernel
set_option maxRecDepth 100000 in
theorem zk_N_copy : zchkM 124 zp_N_copy = true := by decide +kernel
set_option maxRecDepth 100000 in
theorem zk_G_takeAll : zchkM 125 zp_G_takeAll = true := by decide +kernel
set_option maxRecDepth 100000 in
theorem zk_G_put : zchkM 126 zp_G_put = true := by decide +kernel
set_option maxRecDepth 100000 in
theorem zk_G_become : zchkM 127 zp_G_become = true := by decide +kernel
set_option maxRecDepth 100000 in
theorem zk_G_toDig : zchkM 128 zp_G_toDig = true := by decide +kernel
set_option maxRecDepth 100000 in
theorem zk_G_toFill : zchkM 129 zp_G_toFill = true := by decide +kernel
set_option maxRecDepth 100000 in
theorem zk_G_toRoof : zchkM 130 zp_G_toRoof = true := by decide +kernel
set_option maxRecDepth 100000 in
theorem zk_G_repaired : zchkM 131 zp_G_repaired = true := by decide +kernel
set_option maxRecDepth 100000 in
theorem zk_G_remember : zchkM 132 zp_G_remember = true := by decide +kernel
set_option maxRecDepth 100000 in
theorem zk_G_forget : zchkM 133 zp_G_forget = true := by decide +kernel
set_option maxRecDepth 100000 in
theorem zk_G_takeBack : zchkM 134 zp_G_takeBack = true := by decide +kernel
set_option maxRecDepth 100000 in
theorem zk_G_drawn : zchkM 135 zp_G_drawn = true := by decide +kernel
set_option maxRecDepth 100000 in
theorem zk_G_yearByLot : zchkM 136 zp_G_yearByLot = true := by decide +kernel
set_option maxRecDepth 100000 in
theorem zk_G_depths : zchkM 137 zp_G_depths = true := by decide +kernel
set_option maxRecDepth 100000 in
theorem zk_G_holeAt : zchkM 138 zp_G_holeAt = true := by decide +kernel
set_option maxRecDepth 100000 in
theorem zk_G_kindOf : zchkM 139 zp_G_kindOf = true := by decide +kernel
set_option maxRecDepth 100000 in
theorem zk_G_taxOf : zchkM 140 zp_G_taxOf = true := by decide +kernel
set_option maxRecDepth 100000 in
theorem zk_G_taxOfAll : zchkM 141 zp_G_taxOfAll = true := by decide +kernel
set_option maxRecDepth 100000 in
theorem zk_G_landOf : zchkM 142 zp_G_landOf = true := by decide +kernel
set_option maxRecDepth 100000 in
theorem zk_G_ownerOf : zchkM 143 zp_G_ownerOf = true := by decide +kernel
set_option maxRecDepth 100000 in
theorem zk_G_partOf : zchkM 144 zp_G_partOf = true := by decide +kernel
set_option maxRecDepth 100000 in
theorem zk_G_partOfAll : zchkM 145 zp_G_partOfAll = true := by decide +kernel
set_option maxRecDepth 100000 in
theorem zk_G_leastFilled : zchkM 146 zp_G_leastFilled = true := by decide +kernel
set_option maxRecDepth 100000 in
theorem zk_G_fits : zchkM 147 zp_G_fits = true := by decide +kernel
set_option maxRecDepth 100000 in
theorem zk_M_walk : zchkM 148 zp_M_walk = true := by decide +kernel
set_option maxRecDepth 100000 in
theorem zk_M_measure : zchkM 149 zp_M_measure = true := by decide +kernel
set_option maxRecDepth 100000 in
theorem zk_M_nearestOf : zchkM 150 zp_M_nearestOf = true := by decide +kernel
set_option maxRecDepth 100000 in
theorem zk_M_steps : zchkM 151 zp_M_steps = true := by decide +kernel
set_option maxRecDepth 100000 in
theorem zk_M_seek : zchkM 152 zp_M_seek = true := by decide +kernel
set_option maxRecDepth 100000 in
theorem zk_P_has : zchkM 153 zp_P_has = true := by decide +kernel
set_option maxRecDepth 100000 in
theorem zk_P_least : zchkM 154 zp_P_least = true := by decide +kernel
set_option maxRecDepth 100000 in
theorem zk_P_beside : zchkM 155 zp_P_beside = true := by decide +kernel
set_option maxRecDepth 100000 in
theorem zk_P_spread : zchkM 156 zp_P_spread = true := by decide +kernel
set_option maxRecDepth 100000 in
theorem zk_P_firstHole : zchkM 157 zp_P_firstHole = true := by decide +kernel
set_option maxRecDepth 100000 in
theorem zk_P_holesOf : zchkM 158 zp_P_holesOf = true := by decide +kernel
set_option maxRecDepth 100000 in
theorem zk_P_rimOf : zchkM 159 zp_P_rimOf = true := by decide +kernel
set_option maxRecDepth 100000 in
theorem zk_P_fenceOf : zchkM 160 zp_P_fenceOf = true := by decide +kernel
set_option maxRecDepth 100000 in
theorem zk_P_withinOf : zchkM 161 zp_P_withinOf = true := by decide +kernel
set_option maxRecDepth 100000 in
theorem zk_P_nestedIn : zchkM 162 zp_P_nestedIn = true := by decide +kernel
set_option maxRecDepth 100000 in
theorem zk_P_broadestIn : zchkM 163 zp_P_broadestIn = true := by decide +kernel
set_option maxRecDepth 100000 in
theorem zk_P_mostCells : zchkM 164 zp_P_mostCells = true := by decide +kernel
set_option maxRecDepth 100000 in
theorem zk_P_leastCut : zchkM 165 zp_P_leastCut = true := by decide +kernel
set_option maxRecDepth 100000 in
theorem zk_P_isInPieces : zchkM 166 zp_P_isInPieces = true := by decide +kernel
set_option maxRecDepth 100000 in
theorem zk_P_leastSplit : zchkM 167 zp_P_leastSplit = true := by decide +kernel
set_option maxRecDepth 100000 in
theorem zk_P_gapBetween : zchkM 168 zp_P_gapBetween = true := by decide +kernel
set_option maxRecDepth 100000 in
theorem zk_P_leastDug : zchkM 169 zp_P_leastDug = true := by decide +kernel
set_option maxRecDepth 100000 in
theorem zk_R_begin : zchkM 170 zp_R_begin = true := by decide +kernel
set_option maxRecDepth 100000 in
theorem zk_R_spans : zchkM 171 zp_R_spans = true := by decide +kernel
set_option maxRecDepth 100000 in
theorem zk_R_put : zchkM 172 zp_R_put = true := by decide +kernel
set_option maxRecDepth 100000 in
theorem zk_R_areDepths : zchkM 173 zp_R_areDepths = true := by decide +kernel
set_option maxRecDepth 100000 in
theorem zk_T_add : zchkM 174 zp_T_add = true := by decide +kernel
set_option maxRecDepth 100000 in
theorem zk_T_wipe : zchkM 175 zp_T_wipe = true := by decide +kernel
set_option maxRecDepth 100000 in
theorem zk_T_passBlanks : zchkM 176 zp_T_passBlanks = true := by decide +kernel
set_option maxRecDepth 100000 in
theorem zk_T_isNext : zchkM 177 zp_T_isNext = true := by decide +kernel
set_option maxRecDepth 100000 in
theorem zk_T_nextFigure : zchkM 178 zp_T_nextFigure = true := by decide +kernel
set_option maxRecDepth 100000 in
theorem zk_T_fault : zchkM 179 zp_T_fault = true := by decide +kernel
set_option maxRecDepth 100000 in
theorem zk_T_faultBehind : zchkM 180 zp_T_faultBehind = true := by decide +kernel
set_option maxRecDepth 100000 in
theorem zk_T_readGround : zchkM 181 zp_T_readGround = true := by decide +kernel
set_option maxRecDepth 100000 in
theorem zk_T_readOwners : zchkM 182 zp_T_readOwners = true := by decide +kernel
set_option maxRecDepth 100000 in
theorem zk_T_readDay : zchkM 183 zp_T_readDay = true := by decide +kernel
set_option maxRecDepth 100000 in
theorem zk_T_nextRepair : zchkM 184 zp_T_nextRepair = true := by decide +kernel
set_option maxRecDepth 100000 in
theorem zk_J_bitCount : zchkM 185 zp_J_bitCount = true := by decide +kernel
