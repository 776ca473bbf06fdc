/-! ===== the judgement over this program ===== -/
abbrev WP (d y b : Nat) (ls : zL) (st : List Value) (w : zW) (Q : zQ) : Prop := zWP zMI zPG d y b ls st w Q
/-- a method, with n locals, at these arguments -/
def WM (d z n : Nat) (vs : List Value) (w : zW) (Q : zQ) : Prop := zWP zMI zPG d z 0 (zent vs n) [] w Q
theorem zle_0 : zle [] [] := trivial
theorem zle_n {b : Option Value} {r t : zL} (h : zle r t) : zle (none :: r) (b :: t) := ⟨.inl rfl, h⟩
theorem zle_s {a : Option Value} {r t : zL} (h : zle r t) : zle (a :: r) (a :: t) := ⟨.inr rfl, h⟩
theorem zwk {d y b : Nat} {ls ls' : zL} {st : List Value} {w : zW} {Q : zQ} (h : zWP zMI zPG d y b ls st w Q) (hl : zle ls ls') : zWP zMI zPG d y b ls' st w Q := zWP.weak hl h
theorem zstep {d y b : Nat} {ls : zL} {st : List Value} {w : zW} {Q : zQ} {L : List zB} {B : zB} (e : zPG.getD y [] = L) (hb : L[b]? = some B) (h : zrun B.2.1 ls st w (fun ls st w => zterm zMI B.2.2 d y ls st w Q (zWP zMI zPG))) : WP d y b ls st w Q := by
  refine zWP.step ?_
  unfold zbody
  rw [e, hb]
  exact h
theorem zcallI {z b d y : Nat} {i : zI} {ls : zL} {st : List Value} {w : zW} {Q Q' : zQ} {P : zP} (hm : zMI[z]? = some i) (h1 : i.2.2.2.2.2.2 ≤ st.length) (h2 : (zent1 (st.take i.2.2.2.2.2.2).reverse).length ≤ i.2.2.1) (h3 : zcat (st.drop i.2.2.2.2.2.2) ≤ 8) (h4 : zrcv i (st.take i.2.2.2.2.2.2).reverse)
    (h5 : P d z 0 (zent (st.take i.2.2.2.2.2.2).reverse i.2.2.1) [] w Q') (h6 : ∀ r w', Q' r w' → P (d + 1) y b ls (zpush r (st.drop i.2.2.2.2.2.2)) w' Q) : zcall zMI z b (d + 1) y ls st w Q P := by
  unfold zcall
  rw [hm]
  exact ⟨h1, h2, h3, h4, Q', h5, h6⟩
theorem e_C_dig : zPG.getD 0 [] = zp_C_dig := rfl
theorem e_C_fill : zPG.getD 1 [] = zp_C_fill := rfl
theorem e_C_roof : zPG.getD 2 [] = zp_C_roof := rfl
theorem e_C_undo : zPG.getD 3 [] = zp_C_undo := rfl
theorem e_C_own : zPG.getD 4 [] = zp_C_own := rfl
theorem e_C_rate : zPG.getD 5 [] = zp_C_rate := rfl
theorem e_C_told : zPG.getD 6 [] = zp_C_told := rfl
theorem e_C_type : zPG.getD 7 [] = zp_C_type := rfl
theorem e_C_ground : zPG.getD 8 [] = zp_C_ground := rfl
theorem e_C_owners : zPG.getD 9 [] = zp_C_owners := rfl
theorem e_C_day : zPG.getD 10 [] = zp_C_day := rfl
theorem e_C_count : zPG.getD 11 [] = zp_C_count := rfl
theorem e_C_hole : zPG.getD 12 [] = zp_C_hole := rfl
theorem e_C_cells : zPG.getD 13 [] = zp_C_cells := rfl
theorem e_C_part : zPG.getD 14 [] = zp_C_part := rfl
theorem e_C_pays : zPG.getD 15 [] = zp_C_pays := rfl
theorem e_C_worth : zPG.getD 16 [] = zp_C_worth := rfl
theorem e_C_filled : zPG.getD 17 [] = zp_C_filled := rfl
theorem e_C_split : zPG.getD 18 [] = zp_C_split := rfl
theorem e_C_dug : zPG.getD 19 [] = zp_C_dug := rfl
theorem e_C_loophole : zPG.getD 20 [] = zp_C_loophole := rfl
theorem e_C_roofs : zPG.getD 21 [] = zp_C_roofs := rfl
theorem e_C_round : zPG.getD 22 [] = zp_C_round := rfl
theorem e_C_border : zPG.getD 23 [] = zp_C_border := rfl
theorem e_C_cut : zPG.getD 24 [] = zp_C_cut := rfl
theorem e_C_books : zPG.getD 25 [] = zp_C_books := rfl
theorem e_C_lots : zPG.getD 26 [] = zp_C_lots := rfl
theorem e_C_seed : zPG.getD 27 [] = zp_C_seed := rfl
theorem e_C_image : zPG.getD 28 [] = zp_C_image := rfl
theorem e_C_restore : zPG.getD 29 [] = zp_C_restore := rfl
theorem e_C_lay : zPG.getD 30 [] = zp_C_lay := rfl
theorem e_C_film : zPG.getD 31 [] = zp_C_film := rfl
theorem e_C_miscounted : zPG.getD 32 [] = zp_C_miscounted := rfl
theorem e_C_sheet : zPG.getD 33 [] = zp_C_sheet := rfl
theorem e_C_drop : zPG.getD 34 [] = zp_C_drop := rfl
theorem e_C_item : zPG.getD 35 [] = zp_C_item := rfl
theorem e_C_copy : zPG.getD 36 [] = zp_C_copy := rfl
theorem e_C_isCell : zPG.getD 37 [] = zp_C_isCell := rfl
theorem e_C_isOwner : zPG.getD 38 [] = zp_C_isOwner := rfl
theorem e_C_isSheet : zPG.getD 39 [] = zp_C_isSheet := rfl
theorem e_C_isLane : zPG.getD 40 [] = zp_C_isLane := rfl
theorem e_C_refusal : zPG.getD 41 [] = zp_C_refusal := rfl
theorem e_C_isRight : zPG.getD 42 [] = zp_C_isRight := rfl
theorem e_C_pick : zPG.getD 43 [] = zp_C_pick := rfl
theorem e_N_in : zPG.getD 44 [] = zp_N_in := rfl
theorem e_N_isCell : zPG.getD 45 [] = zp_N_isCell := rfl
theorem e_N_has : zPG.getD 46 [] = zp_N_has := rfl
theorem e_N_ones : zPG.getD 47 [] = zp_N_ones := rfl
theorem e_N_least : zPG.getD 48 [] = zp_N_least := rfl
theorem e_N_look : zPG.getD 49 [] = zp_N_look := rfl
theorem e_N_beside : zPG.getD 50 [] = zp_N_beside := rfl
theorem e_N_grown : zPG.getD 51 [] = zp_N_grown := rfl
theorem e_N_holeAt : zPG.getD 52 [] = zp_N_holeAt := rfl
theorem e_N_rimOf : zPG.getD 53 [] = zp_N_rimOf := rfl
theorem e_N_fenceOf : zPG.getD 54 [] = zp_N_fenceOf := rfl
theorem e_N_edge : zPG.getD 55 [] = zp_N_edge := rfl
theorem e_N_withinOf : zPG.getD 56 [] = zp_N_withinOf := rfl
theorem e_N_kindOf : zPG.getD 57 [] = zp_N_kindOf := rfl
theorem e_N_taxOf : zPG.getD 58 [] = zp_N_taxOf := rfl
theorem e_N_findHoles : zPG.getD 59 [] = zp_N_findHoles := rfl
theorem e_N_taxOfAll : zPG.getD 60 [] = zp_N_taxOfAll := rfl
theorem e_N_note : zPG.getD 61 [] = zp_N_note := rfl
theorem e_N_put : zPG.getD 62 [] = zp_N_put := rfl
theorem e_N_dig : zPG.getD 63 [] = zp_N_dig := rfl
theorem e_N_fill : zPG.getD 64 [] = zp_N_fill := rfl
theorem e_N_roof : zPG.getD 65 [] = zp_N_roof := rfl
theorem e_N_undo : zPG.getD 66 [] = zp_N_undo := rfl
theorem e_N_own : zPG.getD 67 [] = zp_N_own := rfl
theorem e_N_rate : zPG.getD 68 [] = zp_N_rate := rfl
theorem e_N_told : zPG.getD 69 [] = zp_N_told := rfl
theorem e_N_type : zPG.getD 70 [] = zp_N_type := rfl
theorem e_N_nextLetter : zPG.getD 71 [] = zp_N_nextLetter := rfl
theorem e_N_takes : zPG.getD 72 [] = zp_N_takes := rfl
theorem e_N_end : zPG.getD 73 [] = zp_N_end := rfl
theorem e_N_readGround : zPG.getD 74 [] = zp_N_readGround := rfl
theorem e_N_ground : zPG.getD 75 [] = zp_N_ground := rfl
theorem e_N_readOwners : zPG.getD 76 [] = zp_N_readOwners := rfl
theorem e_N_owners : zPG.getD 77 [] = zp_N_owners := rfl
theorem e_N_readAct : zPG.getD 78 [] = zp_N_readAct := rfl
theorem e_N_readDay : zPG.getD 79 [] = zp_N_readDay := rfl
theorem e_N_day : zPG.getD 80 [] = zp_N_day := rfl
theorem e_N_count : zPG.getD 81 [] = zp_N_count := rfl
theorem e_N_owned : zPG.getD 82 [] = zp_N_owned := rfl
theorem e_N_ownerOf : zPG.getD 83 [] = zp_N_ownerOf := rfl
theorem e_N_nestedOf : zPG.getD 84 [] = zp_N_nestedOf := rfl
theorem e_N_largestOf : zPG.getD 85 [] = zp_N_largestOf := rfl
theorem e_N_hole : zPG.getD 86 [] = zp_N_hole := rfl
theorem e_N_cells : zPG.getD 87 [] = zp_N_cells := rfl
theorem e_N_partOf : zPG.getD 88 [] = zp_N_partOf := rfl
theorem e_N_part : zPG.getD 89 [] = zp_N_part := rfl
theorem e_N_pays : zPG.getD 90 [] = zp_N_pays := rfl
theorem e_N_worth : zPG.getD 91 [] = zp_N_worth := rfl
theorem e_N_filled : zPG.getD 92 [] = zp_N_filled := rfl
theorem e_N_fewestFilled : zPG.getD 93 [] = zp_N_fewestFilled := rfl
theorem e_N_does : zPG.getD 94 [] = zp_N_does := rfl
theorem e_N_split : zPG.getD 95 [] = zp_N_split := rfl
theorem e_N_fewestDug : zPG.getD 96 [] = zp_N_fewestDug := rfl
theorem e_N_dug : zPG.getD 97 [] = zp_N_dug := rfl
theorem e_N_loophole : zPG.getD 98 [] = zp_N_loophole := rfl
theorem e_N_roofs : zPG.getD 99 [] = zp_N_roofs := rfl
theorem e_N_nextOrder : zPG.getD 100 [] = zp_N_nextOrder := rfl
theorem e_N_off : zPG.getD 101 [] = zp_N_off := rfl
theorem e_N_apart : zPG.getD 102 [] = zp_N_apart := rfl
theorem e_N_nearest : zPG.getD 103 [] = zp_N_nearest := rfl
theorem e_N_stepsOf : zPG.getD 104 [] = zp_N_stepsOf := rfl
theorem e_N_round : zPG.getD 105 [] = zp_N_round := rfl
theorem e_N_border : zPG.getD 106 [] = zp_N_border := rfl
theorem e_N_cut : zPG.getD 107 [] = zp_N_cut := rfl
theorem e_N_books : zPG.getD 108 [] = zp_N_books := rfl
theorem e_N_nextDraw : zPG.getD 109 [] = zp_N_nextDraw := rfl
theorem e_N_lots : zPG.getD 110 [] = zp_N_lots := rfl
theorem e_N_seed : zPG.getD 111 [] = zp_N_seed := rfl
theorem e_N_carried : zPG.getD 112 [] = zp_N_carried := rfl
theorem e_N_image : zPG.getD 113 [] = zp_N_image := rfl
theorem e_N_restore : zPG.getD 114 [] = zp_N_restore := rfl
theorem e_N_isSheet : zPG.getD 115 [] = zp_N_isSheet := rfl
theorem e_N_asLane : zPG.getD 116 [] = zp_N_asLane := rfl
theorem e_N_sheet : zPG.getD 117 [] = zp_N_sheet := rfl
theorem e_N_drop : zPG.getD 118 [] = zp_N_drop := rfl
theorem e_N_lacksRow : zPG.getD 119 [] = zp_N_lacksRow := rfl
theorem e_N_item : zPG.getD 120 [] = zp_N_item := rfl
theorem e_N_lay : zPG.getD 121 [] = zp_N_lay := rfl
theorem e_N_film : zPG.getD 122 [] = zp_N_film := rfl
theorem e_N_miscounted : zPG.getD 123 [] = zp_N_miscounted := rfl
theorem e_N_copy : zPG.getD 124 [] = zp_N_copy := rfl
theorem e_G_takeAll : zPG.getD 125 [] = zp_G_takeAll := rfl
theorem e_G_put : zPG.getD 126 [] = zp_G_put := rfl
theorem e_G_become : zPG.getD 127 [] = zp_G_become := rfl
theorem e_G_toDig : zPG.getD 128 [] = zp_G_toDig := rfl
theorem e_G_toFill : zPG.getD 129 [] = zp_G_toFill := rfl
theorem e_G_toRoof : zPG.getD 130 [] = zp_G_toRoof := rfl
theorem e_G_repaired : zPG.getD 131 [] = zp_G_repaired := rfl
theorem e_G_remember : zPG.getD 132 [] = zp_G_remember := rfl
theorem e_G_forget : zPG.getD 133 [] = zp_G_forget := rfl
theorem e_G_takeBack : zPG.getD 134 [] = zp_G_takeBack := rfl
theorem e_G_drawn : zPG.getD 135 [] = zp_G_drawn := rfl
theorem e_G_yearByLot : zPG.getD 136 [] = zp_G_yearByLot := rfl
theorem e_G_depths : zPG.getD 137 [] = zp_G_depths := rfl
theorem e_G_holeAt : zPG.getD 138 [] = zp_G_holeAt := rfl
theorem e_G_kindOf : zPG.getD 139 [] = zp_G_kindOf := rfl
theorem e_G_taxOf : zPG.getD 140 [] = zp_G_taxOf := rfl
theorem e_G_taxOfAll : zPG.getD 141 [] = zp_G_taxOfAll := rfl
theorem e_G_landOf : zPG.getD 142 [] = zp_G_landOf := rfl
theorem e_G_ownerOf : zPG.getD 143 [] = zp_G_ownerOf := rfl
theorem e_G_partOf : zPG.getD 144 [] = zp_G_partOf := rfl
theorem e_G_partOfAll : zPG.getD 145 [] = zp_G_partOfAll := rfl
theorem e_G_leastFilled : zPG.getD 146 [] = zp_G_leastFilled := rfl
theorem e_G_fits : zPG.getD 147 [] = zp_G_fits := rfl
theorem e_M_walk : zPG.getD 148 [] = zp_M_walk := rfl
theorem e_M_measure : zPG.getD 149 [] = zp_M_measure := rfl
theorem e_M_nearestOf : zPG.getD 150 [] = zp_M_nearestOf := rfl
theorem e_M_steps : zPG.getD 151 [] = zp_M_steps := rfl
theorem e_M_seek : zPG.getD 152 [] = zp_M_seek := rfl
theorem e_P_has : zPG.getD 153 [] = zp_P_has := rfl
theorem e_P_least : zPG.getD 154 [] = zp_P_least := rfl
theorem e_P_beside : zPG.getD 155 [] = zp_P_beside := rfl
theorem e_P_spread : zPG.getD 156 [] = zp_P_spread := rfl
theorem e_P_firstHole : zPG.getD 157 [] = zp_P_firstHole := rfl
theorem e_P_holesOf : zPG.getD 158 [] = zp_P_holesOf := rfl
theorem e_P_rimOf : zPG.getD 159 [] = zp_P_rimOf := rfl
theorem e_P_fenceOf : zPG.getD 160 [] = zp_P_fenceOf := rfl
theorem e_P_withinOf : zPG.getD 161 [] = zp_P_withinOf := rfl
theorem e_P_nestedIn : zPG.getD 162 [] = zp_P_nestedIn := rfl
theorem e_P_broadestIn : zPG.getD 163 [] = zp_P_broadestIn := rfl
theorem e_P_mostCells : zPG.getD 164 [] = zp_P_mostCells := rfl
theorem e_P_leastCut : zPG.getD 165 [] = zp_P_leastCut := rfl
theorem e_P_isInPieces : zPG.getD 166 [] = zp_P_isInPieces := rfl
theorem e_P_leastSplit : zPG.getD 167 [] = zp_P_leastSplit := rfl
theorem e_P_gapBetween : zPG.getD 168 [] = zp_P_gapBetween := rfl
theorem e_P_leastDug : zPG.getD 169 [] = zp_P_leastDug := rfl
theorem e_R_begin : zPG.getD 170 [] = zp_R_begin := rfl
theorem e_R_spans : zPG.getD 171 [] = zp_R_spans := rfl
theorem e_R_put : zPG.getD 172 [] = zp_R_put := rfl
theorem e_R_areDepths : zPG.getD 173 [] = zp_R_areDepths := rfl
theorem e_T_add : zPG.getD 174 [] = zp_T_add := rfl
theorem e_T_wipe : zPG.getD 175 [] = zp_T_wipe := rfl
theorem e_T_passBlanks : zPG.getD 176 [] = zp_T_passBlanks := rfl
theorem e_T_isNext : zPG.getD 177 [] = zp_T_isNext := rfl
theorem e_T_nextFigure : zPG.getD 178 [] = zp_T_nextFigure := rfl
theorem e_T_fault : zPG.getD 179 [] = zp_T_fault := rfl
theorem e_T_faultBehind : zPG.getD 180 [] = zp_T_faultBehind := rfl
theorem e_T_readGround : zPG.getD 181 [] = zp_T_readGround := rfl
theorem e_T_readOwners : zPG.getD 182 [] = zp_T_readOwners := rfl
theorem e_T_readDay : zPG.getD 183 [] = zp_T_readDay := rfl
theorem e_T_nextRepair : zPG.getD 184 [] = zp_T_nextRepair := rfl
theorem e_J_bitCount : zPG.getD 185 [] = zp_J_bitCount := rfl
theorem e_L_law : zPG.getD 186 [] = zp_L_law := rfl
theorem i_C_dig : zMI[0]? = some (yX5_dig, cX5_dig, 2, some .int, 4, false, 2) := rfl
theorem i_C_fill : zMI[1]? = some (yX5_fill, cX5_fill, 2, some .int, 4, false, 2) := rfl
theorem i_C_roof : zMI[2]? = some (yX5_roof, cX5_roof, 2, some .int, 4, false, 2) := rfl
theorem i_C_undo : zMI[3]? = some (yX5_undo, cX5_undo, 1, some .int, 4, false, 1) := rfl
theorem i_C_own : zMI[4]? = some (yX5_own, cX5_own, 4, some .int, 4, false, 3) := rfl
theorem i_C_rate : zMI[5]? = some (yX5_rate, cX5_rate, 3, some .int, 4, false, 2) := rfl
theorem i_C_told : zMI[6]? = some (yX5_told, cX5_told, 3, some .int, 4, false, 3) := rfl
theorem i_C_type : zMI[7]? = some (yX5_type, cX5_type, 2, some .int, 4, false, 2) := rfl
theorem i_C_ground : zMI[8]? = some (yX5_ground, cX5_ground, 2, some .int, 4, false, 1) := rfl
theorem i_C_owners : zMI[9]? = some (yX5_owners, cX5_owners, 2, some .int, 4, false, 1) := rfl
theorem i_C_day : zMI[10]? = some (yX5_day, cX5_day, 3, some .int, 4, false, 1) := rfl
theorem i_C_count : zMI[11]? = some (yX5_count, cX5_count, 2, some .int, 4, false, 2) := rfl
theorem i_C_hole : zMI[12]? = some (yX5_hole, cX5_hole, 5, some .int, 4, false, 3) := rfl
theorem i_C_cells : zMI[13]? = some (yX5_cells, cX5_cells, 5, some .long, 4, false, 3) := rfl
theorem i_C_part : zMI[14]? = some (yX5_part, cX5_part, 5, some .int, 4, false, 3) := rfl
theorem i_C_pays : zMI[15]? = some (yX5_pays, cX5_pays, 2, some .int, 4, false, 2) := rfl
theorem i_C_worth : zMI[16]? = some (yX5_worth, cX5_worth, 4, some .int, 4, false, 2) := rfl
theorem i_C_filled : zMI[17]? = some (yX5_filled, cX5_filled, 3, some .int, 4, false, 3) := rfl
theorem i_C_split : zMI[18]? = some (yX5_split, cX5_split, 5, some .int, 4, false, 3) := rfl
theorem i_C_dug : zMI[19]? = some (yX5_dug, cX5_dug, 8, some .int, 4, false, 4) := rfl
theorem i_C_loophole : zMI[20]? = some (yX5_loophole, cX5_loophole, 5, some .int, 4, false, 1) := rfl
theorem i_C_roofs : zMI[21]? = some (yX5_roofs, cX5_roofs, 4, some .int, 4, false, 2) := rfl
theorem i_C_round : zMI[22]? = some (yX5_round, cX5_round, 4, some .int, 4, false, 3) := rfl
theorem i_C_border : zMI[23]? = some (yX5_border, cX5_border, 4, some .int, 4, false, 2) := rfl
theorem i_C_cut : zMI[24]? = some (yX5_cut, cX5_cut, 4, some .int, 4, false, 2) := rfl
theorem i_C_books : zMI[25]? = some (yX5_books, cX5_books, 16, some .long, 4, false, 5) := rfl
theorem i_C_lots : zMI[26]? = some (yX5_lots, cX5_lots, 4, some .int, 4, false, 2) := rfl
theorem i_C_seed : zMI[27]? = some (yX5_seed, cX5_seed, 3, some .int, 4, false, 2) := rfl
theorem i_C_image : zMI[28]? = some (yX5_image, cX5_image, 1, some .int, 4, false, 1) := rfl
theorem i_C_restore : zMI[29]? = some (yX5_restore, cX5_restore, 1, some .int, 4, false, 1) := rfl
theorem i_C_lay : zMI[30]? = some (yX5_lay, cX5_lay, 9, some .int, 4, false, 6) := rfl
theorem i_C_film : zMI[31]? = some (yX5_film, cX5_film, 11, some .int, 4, false, 4) := rfl
theorem i_C_miscounted : zMI[32]? = some (yX5_miscounted, cX5_miscounted, 9, some .int, 4, false, 5) := rfl
theorem i_C_sheet : zMI[33]? = some (yX5_sheet, cX5_sheet, 4, some .int, 4, false, 4) := rfl
theorem i_C_drop : zMI[34]? = some (yX5_drop, cX5_drop, 3, some .int, 4, false, 2) := rfl
theorem i_C_item : zMI[35]? = some (yX5_item, cX5_item, 7, some .int, 4, false, 5) := rfl
theorem i_C_copy : zMI[36]? = some (yX5_copy, cX5_copy, 8, some .int, 4, false, 6) := rfl
theorem i_C_isCell : zMI[37]? = some (yX5_isCell, cX5_isCell, 1, some .boolean, 4, true, 1) := rfl
theorem i_C_isOwner : zMI[38]? = some (yX5_isOwner, cX5_isOwner, 1, some .boolean, 4, true, 1) := rfl
theorem i_C_isSheet : zMI[39]? = some (yX5_isSheet, cX5_isSheet, 1, some .boolean, 4, true, 1) := rfl
theorem i_C_isLane : zMI[40]? = some (yX5_isLane, cX5_isLane, 1, some .boolean, 4, true, 1) := rfl
theorem i_C_refusal : zMI[41]? = some (yX5_refusal, cX5_refusal, 6, some .int, 4, false, 5) := rfl
theorem i_C_isRight : zMI[42]? = some (yX5_isRight, cX5_isRight, 7, some .boolean, 4, false, 3) := rfl
theorem i_C_pick : zMI[43]? = some (yX5_pick, cX5_pick, 6, some .int, 4, true, 2) := rfl
theorem i_N_in : zMI[44]? = some (yX6_in, cX6_in, 6, some .boolean, 5, true, 3) := rfl
theorem i_N_isCell : zMI[45]? = some (yX6_isCell, cX6_isCell, 1, some .boolean, 5, true, 1) := rfl
theorem i_N_has : zMI[46]? = some (yX6_has, cX6_has, 3, some .boolean, 5, true, 2) := rfl
theorem i_N_ones : zMI[47]? = some (yX6_ones, cX6_ones, 5, some .int, 5, true, 1) := rfl
theorem i_N_least : zMI[48]? = some (yX6_least, cX6_least, 3, some .int, 5, true, 1) := rfl
theorem i_N_look : zMI[49]? = some (yX6_look, cX6_look, 2, none, 5, false, 1) := rfl
theorem i_N_beside : zMI[50]? = some (yX6_beside, cX6_beside, 4, some .long, 5, true, 1) := rfl
theorem i_N_grown : zMI[51]? = some (yX6_grown, cX6_grown, 8, some .long, 5, true, 2) := rfl
theorem i_N_holeAt : zMI[52]? = some (yX6_holeAt, cX6_holeAt, 2, some .long, 5, false, 2) := rfl
theorem i_N_rimOf : zMI[53]? = some (yX6_rimOf, cX6_rimOf, 3, some .long, 5, false, 2) := rfl
theorem i_N_fenceOf : zMI[54]? = some (yX6_fenceOf, cX6_fenceOf, 3, some .int, 5, true, 1) := rfl
theorem i_N_edge : zMI[55]? = some (yX6_edge, cX6_edge, 0, some .long, 5, true, 0) := rfl
theorem i_N_withinOf : zMI[56]? = some (yX6_withinOf, cX6_withinOf, 4, some .long, 5, true, 1) := rfl
theorem i_N_kindOf : zMI[57]? = some (yX6_kindOf, cX6_kindOf, 5, some .int, 5, false, 2) := rfl
theorem i_N_taxOf : zMI[58]? = some (yX6_taxOf, cX6_taxOf, 7, some .int, 5, false, 2) := rfl
theorem i_N_findHoles : zMI[59]? = some (yX6_findHoles, cX6_findHoles, 3, none, 5, false, 1) := rfl
theorem i_N_taxOfAll : zMI[60]? = some (yX6_taxOfAll, cX6_taxOfAll, 3, some .int, 5, false, 1) := rfl
theorem i_N_note : zMI[61]? = some (yX6_note, cX6_note, 3, none, 5, false, 2) := rfl
theorem i_N_put : zMI[62]? = some (yX6_put, cX6_put, 4, none, 5, false, 4) := rfl
theorem i_N_dig : zMI[63]? = some (yX6_dig, cX6_dig, 2, some .int, 5, false, 2) := rfl
theorem i_N_fill : zMI[64]? = some (yX6_fill, cX6_fill, 3, some .int, 5, false, 2) := rfl
theorem i_N_roof : zMI[65]? = some (yX6_roof, cX6_roof, 2, some .int, 5, false, 2) := rfl
theorem i_N_undo : zMI[66]? = some (yX6_undo, cX6_undo, 1, some .int, 5, false, 1) := rfl
theorem i_N_own : zMI[67]? = some (yX6_own, cX6_own, 4, some .int, 5, false, 3) := rfl
theorem i_N_rate : zMI[68]? = some (yX6_rate, cX6_rate, 3, some .int, 5, false, 2) := rfl
theorem i_N_told : zMI[69]? = some (yX6_told, cX6_told, 3, some .int, 5, false, 3) := rfl
theorem i_N_type : zMI[70]? = some (yX6_type, cX6_type, 2, some .int, 5, false, 2) := rfl
theorem i_N_nextLetter : zMI[71]? = some (yX6_nextLetter, cX6_nextLetter, 1, some .int, 5, false, 1) := rfl
theorem i_N_takes : zMI[72]? = some (yX6_takes, cX6_takes, 3, some .boolean, 5, false, 2) := rfl
theorem i_N_end : zMI[73]? = some (yX6_end, cX6_end, 2, some .int, 5, false, 2) := rfl
theorem i_N_readGround : zMI[74]? = some (yX6_readGround, cX6_readGround, 3, some .boolean, 5, false, 1) := rfl
theorem i_N_ground : zMI[75]? = some (yX6_ground, cX6_ground, 3, some .int, 5, false, 1) := rfl
theorem i_N_readOwners : zMI[76]? = some (yX6_readOwners, cX6_readOwners, 3, some .boolean, 5, false, 1) := rfl
theorem i_N_owners : zMI[77]? = some (yX6_owners, cX6_owners, 4, some .int, 5, false, 1) := rfl
theorem i_N_readAct : zMI[78]? = some (yX6_readAct, cX6_readAct, 4, some .boolean, 5, false, 1) := rfl
theorem i_N_readDay : zMI[79]? = some (yX6_readDay, cX6_readDay, 2, some .boolean, 5, false, 1) := rfl
theorem i_N_day : zMI[80]? = some (yX6_day, cX6_day, 6, some .int, 5, false, 1) := rfl
theorem i_N_count : zMI[81]? = some (yX6_count, cX6_count, 4, some .int, 5, false, 2) := rfl
theorem i_N_owned : zMI[82]? = some (yX6_owned, cX6_owned, 5, some .long, 5, false, 2) := rfl
theorem i_N_ownerOf : zMI[83]? = some (yX6_ownerOf, cX6_ownerOf, 7, some .int, 5, false, 2) := rfl
theorem i_N_nestedOf : zMI[84]? = some (yX6_nestedOf, cX6_nestedOf, 5, some .int, 5, false, 2) := rfl
theorem i_N_largestOf : zMI[85]? = some (yX6_largestOf, cX6_largestOf, 8, some .int, 5, true, 1) := rfl
theorem i_N_hole : zMI[86]? = some (yX6_hole, cX6_hole, 5, some .int, 5, false, 3) := rfl
theorem i_N_cells : zMI[87]? = some (yX6_cells, cX6_cells, 5, some .long, 5, false, 3) := rfl
theorem i_N_partOf : zMI[88]? = some (yX6_partOf, cX6_partOf, 7, some .int, 5, false, 3) := rfl
theorem i_N_part : zMI[89]? = some (yX6_part, cX6_part, 3, some .int, 5, false, 3) := rfl
theorem i_N_pays : zMI[90]? = some (yX6_pays, cX6_pays, 4, some .int, 5, false, 2) := rfl
theorem i_N_worth : zMI[91]? = some (yX6_worth, cX6_worth, 3, some .int, 5, false, 2) := rfl
theorem i_N_filled : zMI[92]? = some (yX6_filled, cX6_filled, 4, some .int, 5, false, 3) := rfl
theorem i_N_fewestFilled : zMI[93]? = some (yX6_fewestFilled, cX6_fewestFilled, 8, some .int, 5, false, 3) := rfl
theorem i_N_does : zMI[94]? = some (yX6_does, cX6_does, 9, some .boolean, 5, false, 4) := rfl
theorem i_N_split : zMI[95]? = some (yX6_split, cX6_split, 4, some .int, 5, false, 3) := rfl
theorem i_N_fewestDug : zMI[96]? = some (yX6_fewestDug, cX6_fewestDug, 12, some .int, 5, false, 4) := rfl
theorem i_N_dug : zMI[97]? = some (yX6_dug, cX6_dug, 18, some .int, 5, false, 4) := rfl
theorem i_N_loophole : zMI[98]? = some (yX6_loophole, cX6_loophole, 5, some .int, 5, false, 1) := rfl
theorem i_N_roofs : zMI[99]? = some (yX6_roofs, cX6_roofs, 2, some .int, 5, false, 2) := rfl
theorem i_N_nextOrder : zMI[100]? = some (yX6_nextOrder, cX6_nextOrder, 7, some .boolean, 5, false, 2) := rfl
theorem i_N_off : zMI[101]? = some (yX6_off, cX6_off, 2, some .int, 5, true, 2) := rfl
theorem i_N_apart : zMI[102]? = some (yX6_apart, cX6_apart, 2, some .int, 5, true, 2) := rfl
theorem i_N_nearest : zMI[103]? = some (yX6_nearest, cX6_nearest, 5, some .int, 5, true, 2) := rfl
theorem i_N_stepsOf : zMI[104]? = some (yX6_stepsOf, cX6_stepsOf, 7, some .int, 5, false, 3) := rfl
theorem i_N_round : zMI[105]? = some (yX6_round, cX6_round, 8, some .int, 5, false, 3) := rfl
theorem i_N_border : zMI[106]? = some (yX6_border, cX6_border, 4, some .int, 5, false, 2) := rfl
theorem i_N_cut : zMI[107]? = some (yX6_cut, cX6_cut, 8, some .int, 5, false, 2) := rfl
theorem i_N_books : zMI[108]? = some (yX6_books, cX6_books, 19, some .long, 5, false, 5) := rfl
theorem i_N_nextDraw : zMI[109]? = some (yX6_nextDraw, cX6_nextDraw, 2, some .int, 5, false, 2) := rfl
theorem i_N_lots : zMI[110]? = some (yX6_lots, cX6_lots, 6, some .int, 5, false, 2) := rfl
theorem i_N_seed : zMI[111]? = some (yX6_seed, cX6_seed, 3, some .int, 5, false, 2) := rfl
theorem i_N_carried : zMI[112]? = some (yX6_carried, cX6_carried, 5, some .int, 5, false, 4) := rfl
theorem i_N_image : zMI[113]? = some (yX6_image, cX6_image, 2, some .int, 5, false, 1) := rfl
theorem i_N_restore : zMI[114]? = some (yX6_restore, cX6_restore, 2, some .int, 5, false, 1) := rfl
theorem i_N_isSheet : zMI[115]? = some (yX6_isSheet, cX6_isSheet, 2, some .boolean, 5, true, 2) := rfl
theorem i_N_asLane : zMI[116]? = some (yX6_asLane, cX6_asLane, 3, some .long, 5, true, 2) := rfl
theorem i_N_sheet : zMI[117]? = some (yX6_sheet, cX6_sheet, 5, some .int, 5, false, 4) := rfl
theorem i_N_drop : zMI[118]? = some (yX6_drop, cX6_drop, 2, some .int, 5, false, 2) := rfl
theorem i_N_lacksRow : zMI[119]? = some (yX6_lacksRow, cX6_lacksRow, 5, some .int, 5, false, 5) := rfl
theorem i_N_item : zMI[120]? = some (yX6_item, cX6_item, 7, some .int, 5, false, 5) := rfl
theorem i_N_lay : zMI[121]? = some (yX6_lay, cX6_lay, 10, some .int, 5, false, 6) := rfl
theorem i_N_film : zMI[122]? = some (yX6_film, cX6_film, 6, some .int, 5, false, 4) := rfl
theorem i_N_miscounted : zMI[123]? = some (yX6_miscounted, cX6_miscounted, 12, some .int, 5, false, 5) := rfl
theorem i_N_copy : zMI[124]? = some (yX6_copy, cX6_copy, 7, some .int, 5, false, 6) := rfl
theorem i_G_takeAll : zMI[125]? = some (yX0_takeAll, cX0_takeAll, 2, none, 0, false, 2) := rfl
theorem i_G_put : zMI[126]? = some (yX0_put, cX0_put, 5, none, 0, false, 3) := rfl
theorem i_G_become : zMI[127]? = some (yX0_become, cX0_become, 5, none, 0, false, 3) := rfl
theorem i_G_toDig : zMI[128]? = some (yX0_toDig, cX0_toDig, 2, some .int, 0, false, 2) := rfl
theorem i_G_toFill : zMI[129]? = some (yX0_toFill, cX0_toFill, 3, some .int, 0, false, 2) := rfl
theorem i_G_toRoof : zMI[130]? = some (yX0_toRoof, cX0_toRoof, 2, some .int, 0, false, 2) := rfl
theorem i_G_repaired : zMI[131]? = some (yX0_repaired, cX0_repaired, 3, some .boolean, 0, false, 2) := rfl
theorem i_G_remember : zMI[132]? = some (yX0_remember, cX0_remember, 2, none, 0, false, 2) := rfl
theorem i_G_forget : zMI[133]? = some (yX0_forget, cX0_forget, 1, none, 0, false, 1) := rfl
theorem i_G_takeBack : zMI[134]? = some (yX0_takeBack, cX0_takeBack, 3, some .int, 0, false, 1) := rfl
theorem i_G_drawn : zMI[135]? = some (yX0_drawn, cX0_drawn, 1, some .int, 0, false, 1) := rfl
theorem i_G_yearByLot : zMI[136]? = some (yX0_yearByLot, cX0_yearByLot, 2, some .int, 0, false, 1) := rfl
theorem i_G_depths : zMI[137]? = some (yX0_depths, cX0_depths, 6, some .int, 0, false, 1) := rfl
theorem i_G_holeAt : zMI[138]? = some (yX0_holeAt, cX0_holeAt, 2, some .long, 0, false, 2) := rfl
theorem i_G_kindOf : zMI[139]? = some (yX0_kindOf, cX0_kindOf, 7, some .int, 0, false, 3) := rfl
theorem i_G_taxOf : zMI[140]? = some (yX0_taxOf, cX0_taxOf, 7, some .int, 0, false, 3) := rfl
theorem i_G_taxOfAll : zMI[141]? = some (yX0_taxOfAll, cX0_taxOfAll, 11, some .int, 0, false, 3) := rfl
theorem i_G_landOf : zMI[142]? = some (yX0_landOf, cX0_landOf, 5, some .long, 0, false, 2) := rfl
theorem i_G_ownerOf : zMI[143]? = some (yX0_ownerOf, cX0_ownerOf, 9, some .int, 0, false, 2) := rfl
theorem i_G_partOf : zMI[144]? = some (yX0_partOf, cX0_partOf, 7, some .int, 0, false, 3) := rfl
theorem i_G_partOfAll : zMI[145]? = some (yX0_partOfAll, cX0_partOfAll, 8, some .int, 0, false, 2) := rfl
theorem i_G_leastFilled : zMI[146]? = some (yX0_leastFilled, cX0_leastFilled, 6, some .long, 0, false, 2) := rfl
theorem i_G_fits : zMI[147]? = some (yX0_fits, cX0_fits, 9, some .boolean, 0, false, 5) := rfl
theorem i_M_walk : zMI[148]? = some (yX1_walk, cX1_walk, 8, none, 1, false, 3) := rfl
theorem i_M_measure : zMI[149]? = some (yX1_measure, cX1_measure, 6, none, 1, false, 3) := rfl
theorem i_M_nearestOf : zMI[150]? = some (yX1_nearestOf, cX1_nearestOf, 6, some .int, 1, true, 2) := rfl
theorem i_M_steps : zMI[151]? = some (yX1_steps, cX1_steps, 2, some .int, 1, true, 2) := rfl
theorem i_M_seek : zMI[152]? = some (yX1_seek, cX1_seek, 8, none, 1, false, 6) := rfl
theorem i_P_has : zMI[153]? = some (yX2_has, cX2_has, 3, some .boolean, 6, true, 2) := rfl
theorem i_P_least : zMI[154]? = some (yX2_least, cX2_least, 2, some .int, 6, true, 1) := rfl
theorem i_P_beside : zMI[155]? = some (yX2_beside, cX2_beside, 4, some .long, 6, true, 1) := rfl
theorem i_P_spread : zMI[156]? = some (yX2_spread, cX2_spread, 9, some .long, 6, true, 2) := rfl
theorem i_P_firstHole : zMI[157]? = some (yX2_firstHole, cX2_firstHole, 2, some .long, 6, true, 1) := rfl
theorem i_P_holesOf : zMI[158]? = some (yX2_holesOf, cX2_holesOf, 5, some .int, 6, true, 1) := rfl
theorem i_P_rimOf : zMI[159]? = some (yX2_rimOf, cX2_rimOf, 2, some .long, 6, true, 1) := rfl
theorem i_P_fenceOf : zMI[160]? = some (yX2_fenceOf, cX2_fenceOf, 4, some .int, 6, true, 1) := rfl
theorem i_P_withinOf : zMI[161]? = some (yX2_withinOf, cX2_withinOf, 4, some .long, 6, true, 1) := rfl
theorem i_P_nestedIn : zMI[162]? = some (yX2_nestedIn, cX2_nestedIn, 10, some .int, 6, true, 2) := rfl
theorem i_P_broadestIn : zMI[163]? = some (yX2_broadestIn, cX2_broadestIn, 7, some .int, 6, true, 1) := rfl
theorem i_P_mostCells : zMI[164]? = some (yX2_mostCells, cX2_mostCells, 9, some .long, 6, true, 1) := rfl
theorem i_P_leastCut : zMI[165]? = some (yX2_leastCut, cX2_leastCut, 8, some .int, 6, true, 2) := rfl
theorem i_P_isInPieces : zMI[166]? = some (yX2_isInPieces, cX2_isInPieces, 2, some .boolean, 6, true, 1) := rfl
theorem i_P_leastSplit : zMI[167]? = some (yX2_leastSplit, cX2_leastSplit, 6, some .long, 6, true, 1) := rfl
theorem i_P_gapBetween : zMI[168]? = some (yX2_gapBetween, cX2_gapBetween, 13, some .int, 6, true, 4) := rfl
theorem i_P_leastDug : zMI[169]? = some (yX2_leastDug, cX2_leastDug, 14, some .long, 6, true, 3) := rfl
theorem i_R_begin : zMI[170]? = some (yX3_begin, cX3_begin, 4, none, 2, false, 3) := rfl
theorem i_R_spans : zMI[171]? = some (yX3_spans, cX3_spans, 3, some .boolean, 2, false, 3) := rfl
theorem i_R_put : zMI[172]? = some (yX3_put, cX3_put, 4, none, 2, false, 3) := rfl
theorem i_R_areDepths : zMI[173]? = some (yX3_areDepths, cX3_areDepths, 4, some .boolean, 2, false, 3) := rfl
theorem i_T_add : zMI[174]? = some (yX4_add, cX4_add, 2, some .int, 3, false, 2) := rfl
theorem i_T_wipe : zMI[175]? = some (yX4_wipe, cX4_wipe, 1, none, 3, false, 1) := rfl
theorem i_T_passBlanks : zMI[176]? = some (yX4_passBlanks, cX4_passBlanks, 1, none, 3, false, 1) := rfl
theorem i_T_isNext : zMI[177]? = some (yX4_isNext, cX4_isNext, 2, some .boolean, 3, false, 2) := rfl
theorem i_T_nextFigure : zMI[178]? = some (yX4_nextFigure, cX4_nextFigure, 3, some .int, 3, false, 2) := rfl
theorem i_T_fault : zMI[179]? = some (yX4_fault, cX4_fault, 1, some .int, 3, false, 1) := rfl
theorem i_T_faultBehind : zMI[180]? = some (yX4_faultBehind, cX4_faultBehind, 1, some .int, 3, false, 1) := rfl
theorem i_T_readGround : zMI[181]? = some (yX4_readGround, cX4_readGround, 3, some .int, 3, false, 1) := rfl
theorem i_T_readOwners : zMI[182]? = some (yX4_readOwners, cX4_readOwners, 3, some .int, 3, false, 1) := rfl
theorem i_T_readDay : zMI[183]? = some (yX4_readDay, cX4_readDay, 3, some .int, 3, false, 1) := rfl
theorem i_T_nextRepair : zMI[184]? = some (yX4_nextRepair, cX4_nextRepair, 4, some .int, 3, false, 1) := rfl
theorem i_J_bitCount : zMI[185]? = some (yJ13_bitCount_95d88, cJ13_bitCount_95d88, 2, some .int, 7, true, 1) := rfl
theorem i_L_law : zMI[186]? = some (yL_law, cL_law, 4, some .boolean, 9, true, 1) := rfl
theorem n_C_dig {d : Nat} {w : zW} {Q : zQ} {i1 : Int32} (h : WP d m_C_dig 0 [some (.ref 0), some (.int i1)] [] w Q) : WM d m_C_dig 2 [.ref 0, .int i1] w Q := h
theorem n_C_fill {d : Nat} {w : zW} {Q : zQ} {i1 : Int32} (h : WP d m_C_fill 0 [some (.ref 0), some (.int i1)] [] w Q) : WM d m_C_fill 2 [.ref 0, .int i1] w Q := h
theorem n_C_roof {d : Nat} {w : zW} {Q : zQ} {i1 : Int32} (h : WP d m_C_roof 0 [some (.ref 0), some (.int i1)] [] w Q) : WM d m_C_roof 2 [.ref 0, .int i1] w Q := h
theorem n_C_undo {d : Nat} {w : zW} {Q : zQ}  (h : WP d m_C_undo 0 [some (.ref 0)] [] w Q) : WM d m_C_undo 1 [.ref 0] w Q := h
theorem n_C_own {d : Nat} {w : zW} {Q : zQ} {i1 : Int32} {i2 : Int32} (h : WP d m_C_own 0 [some (.ref 0), some (.int i1), some (.int i2), none] [] w Q) : WM d m_C_own 4 [.ref 0, .int i1, .int i2] w Q := h
theorem n_C_rate {d : Nat} {w : zW} {Q : zQ} {i1 : Int32} (h : WP d m_C_rate 0 [some (.ref 0), some (.int i1), none] [] w Q) : WM d m_C_rate 3 [.ref 0, .int i1] w Q := h
theorem n_C_told {d : Nat} {w : zW} {Q : zQ} {i1 : Int32} {i2 : Int32} (h : WP d m_C_told 0 [some (.ref 0), some (.int i1), some (.int i2)] [] w Q) : WM d m_C_told 3 [.ref 0, .int i1, .int i2] w Q := h
theorem n_C_type {d : Nat} {w : zW} {Q : zQ} {i1 : Int32} (h : WP d m_C_type 0 [some (.ref 0), some (.int i1)] [] w Q) : WM d m_C_type 2 [.ref 0, .int i1] w Q := h
theorem n_C_ground {d : Nat} {w : zW} {Q : zQ}  (h : WP d m_C_ground 0 [some (.ref 0), none] [] w Q) : WM d m_C_ground 2 [.ref 0] w Q := h
theorem n_C_owners {d : Nat} {w : zW} {Q : zQ}  (h : WP d m_C_owners 0 [some (.ref 0), none] [] w Q) : WM d m_C_owners 2 [.ref 0] w Q := h
theorem n_C_day {d : Nat} {w : zW} {Q : zQ}  (h : WP d m_C_day 0 [some (.ref 0), none, none] [] w Q) : WM d m_C_day 3 [.ref 0] w Q := h
theorem n_C_count {d : Nat} {w : zW} {Q : zQ} {i1 : Int32} (h : WP d m_C_count 0 [some (.ref 0), some (.int i1)] [] w Q) : WM d m_C_count 2 [.ref 0, .int i1] w Q := h
theorem n_C_hole {d : Nat} {w : zW} {Q : zQ} {i1 : Int32} {i2 : Int32} (h : WP d m_C_hole 0 [some (.ref 0), some (.int i1), some (.int i2), none, none] [] w Q) : WM d m_C_hole 5 [.ref 0, .int i1, .int i2] w Q := h
theorem n_C_cells {d : Nat} {w : zW} {Q : zQ} {i1 : Int32} {i2 : Int32} (h : WP d m_C_cells 0 [some (.ref 0), some (.int i1), some (.int i2), none, none] [] w Q) : WM d m_C_cells 5 [.ref 0, .int i1, .int i2] w Q := h
theorem n_C_part {d : Nat} {w : zW} {Q : zQ} {i1 : Int32} {i2 : Int32} (h : WP d m_C_part 0 [some (.ref 0), some (.int i1), some (.int i2), none, none] [] w Q) : WM d m_C_part 5 [.ref 0, .int i1, .int i2] w Q := h
theorem n_C_pays {d : Nat} {w : zW} {Q : zQ} {i1 : Int32} (h : WP d m_C_pays 0 [some (.ref 0), some (.int i1)] [] w Q) : WM d m_C_pays 2 [.ref 0, .int i1] w Q := h
theorem n_C_worth {d : Nat} {w : zW} {Q : zQ} {i1 : Int32} (h : WP d m_C_worth 0 [some (.ref 0), some (.int i1), none, none] [] w Q) : WM d m_C_worth 4 [.ref 0, .int i1] w Q := h
theorem n_C_filled {d : Nat} {w : zW} {Q : zQ} {i1 : Int32} {i2 : Int32} (h : WP d m_C_filled 0 [some (.ref 0), some (.int i1), some (.int i2)] [] w Q) : WM d m_C_filled 3 [.ref 0, .int i1, .int i2] w Q := h
theorem n_C_split {d : Nat} {w : zW} {Q : zQ} {i1 : Int32} {i2 : Int32} (h : WP d m_C_split 0 [some (.ref 0), some (.int i1), some (.int i2), none, none] [] w Q) : WM d m_C_split 5 [.ref 0, .int i1, .int i2] w Q := h
theorem n_C_dug {d : Nat} {w : zW} {Q : zQ} {i1 : Int32} {i2 : Int32} {i3 : Int32} (h : WP d m_C_dug 0 [some (.ref 0), some (.int i1), some (.int i2), some (.int i3), none, none, none, none] [] w Q) : WM d m_C_dug 8 [.ref 0, .int i1, .int i2, .int i3] w Q := h
theorem n_C_loophole {d : Nat} {w : zW} {Q : zQ}  (h : WP d m_C_loophole 0 [some (.ref 0), none, none, none, none] [] w Q) : WM d m_C_loophole 5 [.ref 0] w Q := h
theorem n_C_roofs {d : Nat} {w : zW} {Q : zQ} {i1 : Int32} (h : WP d m_C_roofs 0 [some (.ref 0), some (.int i1), none, none] [] w Q) : WM d m_C_roofs 4 [.ref 0, .int i1] w Q := h
theorem n_C_round {d : Nat} {w : zW} {Q : zQ} {i1 : Int32} {i2 : Int32} (h : WP d m_C_round 0 [some (.ref 0), some (.int i1), some (.int i2), none] [] w Q) : WM d m_C_round 4 [.ref 0, .int i1, .int i2] w Q := h
theorem n_C_border {d : Nat} {w : zW} {Q : zQ} {i1 : Int32} (h : WP d m_C_border 0 [some (.ref 0), some (.int i1), none, none] [] w Q) : WM d m_C_border 4 [.ref 0, .int i1] w Q := h
theorem n_C_cut {d : Nat} {w : zW} {Q : zQ} {i1 : Int32} (h : WP d m_C_cut 0 [some (.ref 0), some (.int i1), none, none] [] w Q) : WM d m_C_cut 4 [.ref 0, .int i1] w Q := h
theorem n_C_books {d : Nat} {w : zW} {Q : zQ} {l1 : Int64} {i3 : Int32} {i4 : Int32} {i5 : Int32} (h : WP d m_C_books 0 [some (.ref 0), some (.long l1), none, some (.int i3), some (.int i4), some (.int i5), none, none, none, none, none, none, none, none, none, none] [] w Q) : WM d m_C_books 16 [.ref 0, .long l1, .int i3, .int i4, .int i5] w Q := h
theorem n_C_lots {d : Nat} {w : zW} {Q : zQ} {i1 : Int32} (h : WP d m_C_lots 0 [some (.ref 0), some (.int i1), none, none] [] w Q) : WM d m_C_lots 4 [.ref 0, .int i1] w Q := h
theorem n_C_seed {d : Nat} {w : zW} {Q : zQ} {i1 : Int32} (h : WP d m_C_seed 0 [some (.ref 0), some (.int i1), none] [] w Q) : WM d m_C_seed 3 [.ref 0, .int i1] w Q := h
theorem n_C_image {d : Nat} {w : zW} {Q : zQ}  (h : WP d m_C_image 0 [some (.ref 0)] [] w Q) : WM d m_C_image 1 [.ref 0] w Q := h
theorem n_C_restore {d : Nat} {w : zW} {Q : zQ}  (h : WP d m_C_restore 0 [some (.ref 0)] [] w Q) : WM d m_C_restore 1 [.ref 0] w Q := h
theorem n_C_lay {d : Nat} {w : zW} {Q : zQ} {i1 : Int32} {i2 : Int32} {i3 : Int32} {i4 : Int32} {i5 : Int32} (h : WP d m_C_lay 0 [some (.ref 0), some (.int i1), some (.int i2), some (.int i3), some (.int i4), some (.int i5), none, none, none] [] w Q) : WM d m_C_lay 9 [.ref 0, .int i1, .int i2, .int i3, .int i4, .int i5] w Q := h
theorem n_C_film {d : Nat} {w : zW} {Q : zQ} {i1 : Int32} {i2 : Int32} {i3 : Int32} (h : WP d m_C_film 0 [some (.ref 0), some (.int i1), some (.int i2), some (.int i3), none, none, none, none, none, none, none] [] w Q) : WM d m_C_film 11 [.ref 0, .int i1, .int i2, .int i3] w Q := h
theorem n_C_miscounted {d : Nat} {w : zW} {Q : zQ} {i1 : Int32} {i2 : Int32} {i3 : Int32} {i4 : Int32} (h : WP d m_C_miscounted 0 [some (.ref 0), some (.int i1), some (.int i2), some (.int i3), some (.int i4), none, none, none, none] [] w Q) : WM d m_C_miscounted 9 [.ref 0, .int i1, .int i2, .int i3, .int i4] w Q := h
theorem n_C_sheet {d : Nat} {w : zW} {Q : zQ} {i1 : Int32} {i2 : Int32} {i3 : Int32} (h : WP d m_C_sheet 0 [some (.ref 0), some (.int i1), some (.int i2), some (.int i3)] [] w Q) : WM d m_C_sheet 4 [.ref 0, .int i1, .int i2, .int i3] w Q := h
theorem n_C_drop {d : Nat} {w : zW} {Q : zQ} {i1 : Int32} (h : WP d m_C_drop 0 [some (.ref 0), some (.int i1), none] [] w Q) : WM d m_C_drop 3 [.ref 0, .int i1] w Q := h
theorem n_C_item {d : Nat} {w : zW} {Q : zQ} {i1 : Int32} {i2 : Int32} {i3 : Int32} {l4 : Int64} (h : WP d m_C_item 0 [some (.ref 0), some (.int i1), some (.int i2), some (.int i3), some (.long l4), none, none] [] w Q) : WM d m_C_item 7 [.ref 0, .int i1, .int i2, .int i3, .long l4] w Q := h
theorem n_C_copy {d : Nat} {w : zW} {Q : zQ} {i1 : Int32} {i2 : Int32} {i3 : Int32} {i4 : Int32} {i5 : Int32} (h : WP d m_C_copy 0 [some (.ref 0), some (.int i1), some (.int i2), some (.int i3), some (.int i4), some (.int i5), none, none] [] w Q) : WM d m_C_copy 8 [.ref 0, .int i1, .int i2, .int i3, .int i4, .int i5] w Q := h
theorem n_C_isCell {d : Nat} {w : zW} {Q : zQ} {i0 : Int32} (h : WP d m_C_isCell 0 [some (.int i0)] [] w Q) : WM d m_C_isCell 1 [.int i0] w Q := h
theorem n_C_isOwner {d : Nat} {w : zW} {Q : zQ} {i0 : Int32} (h : WP d m_C_isOwner 0 [some (.int i0)] [] w Q) : WM d m_C_isOwner 1 [.int i0] w Q := h
theorem n_C_isSheet {d : Nat} {w : zW} {Q : zQ} {i0 : Int32} (h : WP d m_C_isSheet 0 [some (.int i0)] [] w Q) : WM d m_C_isSheet 1 [.int i0] w Q := h
theorem n_C_isLane {d : Nat} {w : zW} {Q : zQ} {i0 : Int32} (h : WP d m_C_isLane 0 [some (.int i0)] [] w Q) : WM d m_C_isLane 1 [.int i0] w Q := h
theorem n_C_refusal {d : Nat} {w : zW} {Q : zQ} {i1 : Int32} {i2 : Int32} {i3 : Int32} {i4 : Int32} (h : WP d m_C_refusal 0 [some (.ref 0), some (.int i1), some (.int i2), some (.int i3), some (.int i4), none] [] w Q) : WM d m_C_refusal 6 [.ref 0, .int i1, .int i2, .int i3, .int i4] w Q := h
theorem n_C_isRight {d : Nat} {w : zW} {Q : zQ} {l1 : Int64} {l3 : Int64} (h : WP d m_C_isRight 0 [some (.ref 0), some (.long l1), none, some (.long l3), none, none, none] [] w Q) : WM d m_C_isRight 7 [.ref 0, .long l1, .long l3] w Q := h
theorem n_C_pick {d : Nat} {w : zW} {Q : zQ} {l0 : Int64} {i2 : Int32} (h : WP d m_C_pick 0 [some (.long l0), none, some (.int i2), none, none, none] [] w Q) : WM d m_C_pick 6 [.long l0, .int i2] w Q := h
theorem n_N_in {d : Nat} {w : zW} {Q : zQ} {l0 : Int64} {l2 : Int64} {l4 : Int64} (h : WP d m_N_in 0 [some (.long l0), none, some (.long l2), none, some (.long l4), none] [] w Q) : WM d m_N_in 6 [.long l0, .long l2, .long l4] w Q := h
theorem n_N_isCell {d : Nat} {w : zW} {Q : zQ} {i0 : Int32} (h : WP d m_N_isCell 0 [some (.int i0)] [] w Q) : WM d m_N_isCell 1 [.int i0] w Q := h
theorem n_N_has {d : Nat} {w : zW} {Q : zQ} {l0 : Int64} {i2 : Int32} (h : WP d m_N_has 0 [some (.long l0), none, some (.int i2)] [] w Q) : WM d m_N_has 3 [.long l0, .int i2] w Q := h
theorem n_N_ones {d : Nat} {w : zW} {Q : zQ} {l0 : Int64} (h : WP d m_N_ones 0 [some (.long l0), none, none, none, none] [] w Q) : WM d m_N_ones 5 [.long l0] w Q := h
theorem n_N_least {d : Nat} {w : zW} {Q : zQ} {l0 : Int64} (h : WP d m_N_least 0 [some (.long l0), none, none] [] w Q) : WM d m_N_least 3 [.long l0] w Q := h
theorem n_N_look {d : Nat} {w : zW} {Q : zQ}  (h : WP d m_N_look 0 [some (.ref 10), none] [] w Q) : WM d m_N_look 2 [.ref 10] w Q := h
theorem n_N_beside {d : Nat} {w : zW} {Q : zQ} {l0 : Int64} (h : WP d m_N_beside 0 [some (.long l0), none, none, none] [] w Q) : WM d m_N_beside 4 [.long l0] w Q := h
theorem n_N_grown {d : Nat} {w : zW} {Q : zQ} {l0 : Int64} {l2 : Int64} (h : WP d m_N_grown 0 [some (.long l0), none, some (.long l2), none, none, none, none, none] [] w Q) : WM d m_N_grown 8 [.long l0, .long l2] w Q := h
theorem n_N_holeAt {d : Nat} {w : zW} {Q : zQ} {i1 : Int32} (h : WP d m_N_holeAt 0 [some (.ref 10), some (.int i1)] [] w Q) : WM d m_N_holeAt 2 [.ref 10, .int i1] w Q := h
theorem n_N_rimOf {d : Nat} {w : zW} {Q : zQ} {l1 : Int64} (h : WP d m_N_rimOf 0 [some (.ref 10), some (.long l1), none] [] w Q) : WM d m_N_rimOf 3 [.ref 10, .long l1] w Q := h
theorem n_N_fenceOf {d : Nat} {w : zW} {Q : zQ} {l0 : Int64} (h : WP d m_N_fenceOf 0 [some (.long l0), none, none] [] w Q) : WM d m_N_fenceOf 3 [.long l0] w Q := h
theorem n_N_edge {d : Nat} {w : zW} {Q : zQ}  (h : WP d m_N_edge 0 [] [] w Q) : WM d m_N_edge 0 [] w Q := h
theorem n_N_withinOf {d : Nat} {w : zW} {Q : zQ} {l0 : Int64} (h : WP d m_N_withinOf 0 [some (.long l0), none, none, none] [] w Q) : WM d m_N_withinOf 4 [.long l0] w Q := h
theorem n_N_kindOf {d : Nat} {w : zW} {Q : zQ} {l1 : Int64} (h : WP d m_N_kindOf 0 [some (.ref 10), some (.long l1), none, none, none] [] w Q) : WM d m_N_kindOf 5 [.ref 10, .long l1] w Q := h
theorem n_N_taxOf {d : Nat} {w : zW} {Q : zQ} {l1 : Int64} (h : WP d m_N_taxOf 0 [some (.ref 10), some (.long l1), none, none, none, none, none] [] w Q) : WM d m_N_taxOf 7 [.ref 10, .long l1] w Q := h
theorem n_N_findHoles {d : Nat} {w : zW} {Q : zQ}  (h : WP d m_N_findHoles 0 [some (.ref 10), none, none] [] w Q) : WM d m_N_findHoles 3 [.ref 10] w Q := h
theorem n_N_taxOfAll {d : Nat} {w : zW} {Q : zQ}  (h : WP d m_N_taxOfAll 0 [some (.ref 10), none, none] [] w Q) : WM d m_N_taxOfAll 3 [.ref 10] w Q := h
theorem n_N_note {d : Nat} {w : zW} {Q : zQ} {i1 : Int32} (h : WP d m_N_note 0 [some (.ref 10), some (.int i1), none] [] w Q) : WM d m_N_note 3 [.ref 10, .int i1] w Q := h
theorem n_N_put {d : Nat} {w : zW} {Q : zQ} {i1 : Int32} {i2 : Int32} {i3 : Int32} (h : WP d m_N_put 0 [some (.ref 10), some (.int i1), some (.int i2), some (.int i3)] [] w Q) : WM d m_N_put 4 [.ref 10, .int i1, .int i2, .int i3] w Q := h
theorem n_N_dig {d : Nat} {w : zW} {Q : zQ} {i1 : Int32} (h : WP d m_N_dig 0 [some (.ref 10), some (.int i1)] [] w Q) : WM d m_N_dig 2 [.ref 10, .int i1] w Q := h
theorem n_N_fill {d : Nat} {w : zW} {Q : zQ} {i1 : Int32} (h : WP d m_N_fill 0 [some (.ref 10), some (.int i1), none] [] w Q) : WM d m_N_fill 3 [.ref 10, .int i1] w Q := h
theorem n_N_roof {d : Nat} {w : zW} {Q : zQ} {i1 : Int32} (h : WP d m_N_roof 0 [some (.ref 10), some (.int i1)] [] w Q) : WM d m_N_roof 2 [.ref 10, .int i1] w Q := h
theorem n_N_undo {d : Nat} {w : zW} {Q : zQ}  (h : WP d m_N_undo 0 [some (.ref 10)] [] w Q) : WM d m_N_undo 1 [.ref 10] w Q := h
theorem n_N_own {d : Nat} {w : zW} {Q : zQ} {i1 : Int32} {i2 : Int32} (h : WP d m_N_own 0 [some (.ref 10), some (.int i1), some (.int i2), none] [] w Q) : WM d m_N_own 4 [.ref 10, .int i1, .int i2] w Q := h
theorem n_N_rate {d : Nat} {w : zW} {Q : zQ} {i1 : Int32} (h : WP d m_N_rate 0 [some (.ref 10), some (.int i1), none] [] w Q) : WM d m_N_rate 3 [.ref 10, .int i1] w Q := h
theorem n_N_told {d : Nat} {w : zW} {Q : zQ} {i1 : Int32} {i2 : Int32} (h : WP d m_N_told 0 [some (.ref 10), some (.int i1), some (.int i2)] [] w Q) : WM d m_N_told 3 [.ref 10, .int i1, .int i2] w Q := h
theorem n_N_type {d : Nat} {w : zW} {Q : zQ} {i1 : Int32} (h : WP d m_N_type 0 [some (.ref 10), some (.int i1)] [] w Q) : WM d m_N_type 2 [.ref 10, .int i1] w Q := h
theorem n_N_nextLetter {d : Nat} {w : zW} {Q : zQ}  (h : WP d m_N_nextLetter 0 [some (.ref 10)] [] w Q) : WM d m_N_nextLetter 1 [.ref 10] w Q := h
theorem n_N_takes {d : Nat} {w : zW} {Q : zQ} {i1 : Int32} (h : WP d m_N_takes 0 [some (.ref 10), some (.int i1), none] [] w Q) : WM d m_N_takes 3 [.ref 10, .int i1] w Q := h
theorem n_N_end {d : Nat} {w : zW} {Q : zQ} {i1 : Int32} (h : WP d m_N_end 0 [some (.ref 10), some (.int i1)] [] w Q) : WM d m_N_end 2 [.ref 10, .int i1] w Q := h
theorem n_N_readGround {d : Nat} {w : zW} {Q : zQ}  (h : WP d m_N_readGround 0 [some (.ref 10), none, none] [] w Q) : WM d m_N_readGround 3 [.ref 10] w Q := h
theorem n_N_ground {d : Nat} {w : zW} {Q : zQ}  (h : WP d m_N_ground 0 [some (.ref 10), none, none] [] w Q) : WM d m_N_ground 3 [.ref 10] w Q := h
theorem n_N_readOwners {d : Nat} {w : zW} {Q : zQ}  (h : WP d m_N_readOwners 0 [some (.ref 10), none, none] [] w Q) : WM d m_N_readOwners 3 [.ref 10] w Q := h
theorem n_N_owners {d : Nat} {w : zW} {Q : zQ}  (h : WP d m_N_owners 0 [some (.ref 10), none, none, none] [] w Q) : WM d m_N_owners 4 [.ref 10] w Q := h
theorem n_N_readAct {d : Nat} {w : zW} {Q : zQ}  (h : WP d m_N_readAct 0 [some (.ref 10), none, none, none] [] w Q) : WM d m_N_readAct 4 [.ref 10] w Q := h
theorem n_N_readDay {d : Nat} {w : zW} {Q : zQ}  (h : WP d m_N_readDay 0 [some (.ref 10), none] [] w Q) : WM d m_N_readDay 2 [.ref 10] w Q := h
theorem n_N_day {d : Nat} {w : zW} {Q : zQ}  (h : WP d m_N_day 0 [some (.ref 10), none, none, none, none, none] [] w Q) : WM d m_N_day 6 [.ref 10] w Q := h
theorem n_N_count {d : Nat} {w : zW} {Q : zQ} {i1 : Int32} (h : WP d m_N_count 0 [some (.ref 10), some (.int i1), none, none] [] w Q) : WM d m_N_count 4 [.ref 10, .int i1] w Q := h
theorem n_N_owned {d : Nat} {w : zW} {Q : zQ} {i1 : Int32} (h : WP d m_N_owned 0 [some (.ref 10), some (.int i1), none, none, none] [] w Q) : WM d m_N_owned 5 [.ref 10, .int i1] w Q := h
theorem n_N_ownerOf {d : Nat} {w : zW} {Q : zQ} {l1 : Int64} (h : WP d m_N_ownerOf 0 [some (.ref 10), some (.long l1), none, none, none, none, none] [] w Q) : WM d m_N_ownerOf 7 [.ref 10, .long l1] w Q := h
theorem n_N_nestedOf {d : Nat} {w : zW} {Q : zQ} {l1 : Int64} (h : WP d m_N_nestedOf 0 [some (.ref 10), some (.long l1), none, none, none] [] w Q) : WM d m_N_nestedOf 5 [.ref 10, .long l1] w Q := h
theorem n_N_largestOf {d : Nat} {w : zW} {Q : zQ} {l0 : Int64} (h : WP d m_N_largestOf 0 [some (.long l0), none, none, none, none, none, none, none] [] w Q) : WM d m_N_largestOf 8 [.long l0] w Q := h
theorem n_N_hole {d : Nat} {w : zW} {Q : zQ} {i1 : Int32} {i2 : Int32} (h : WP d m_N_hole 0 [some (.ref 10), some (.int i1), some (.int i2), none, none] [] w Q) : WM d m_N_hole 5 [.ref 10, .int i1, .int i2] w Q := h
theorem n_N_cells {d : Nat} {w : zW} {Q : zQ} {i1 : Int32} {i2 : Int32} (h : WP d m_N_cells 0 [some (.ref 10), some (.int i1), some (.int i2), none, none] [] w Q) : WM d m_N_cells 5 [.ref 10, .int i1, .int i2] w Q := h
theorem n_N_partOf {d : Nat} {w : zW} {Q : zQ} {l1 : Int64} {i3 : Int32} (h : WP d m_N_partOf 0 [some (.ref 10), some (.long l1), none, some (.int i3), none, none, none] [] w Q) : WM d m_N_partOf 7 [.ref 10, .long l1, .int i3] w Q := h
theorem n_N_part {d : Nat} {w : zW} {Q : zQ} {i1 : Int32} {i2 : Int32} (h : WP d m_N_part 0 [some (.ref 10), some (.int i1), some (.int i2)] [] w Q) : WM d m_N_part 3 [.ref 10, .int i1, .int i2] w Q := h
theorem n_N_pays {d : Nat} {w : zW} {Q : zQ} {i1 : Int32} (h : WP d m_N_pays 0 [some (.ref 10), some (.int i1), none, none] [] w Q) : WM d m_N_pays 4 [.ref 10, .int i1] w Q := h
theorem n_N_worth {d : Nat} {w : zW} {Q : zQ} {i1 : Int32} (h : WP d m_N_worth 0 [some (.ref 10), some (.int i1), none] [] w Q) : WM d m_N_worth 3 [.ref 10, .int i1] w Q := h
theorem n_N_filled {d : Nat} {w : zW} {Q : zQ} {i1 : Int32} {i2 : Int32} (h : WP d m_N_filled 0 [some (.ref 10), some (.int i1), some (.int i2), none] [] w Q) : WM d m_N_filled 4 [.ref 10, .int i1, .int i2] w Q := h
theorem n_N_fewestFilled {d : Nat} {w : zW} {Q : zQ} {i1 : Int32} {l2 : Int64} (h : WP d m_N_fewestFilled 0 [some (.ref 10), some (.int i1), some (.long l2), none, none, none, none, none] [] w Q) : WM d m_N_fewestFilled 8 [.ref 10, .int i1, .long l2] w Q := h
theorem n_N_does {d : Nat} {w : zW} {Q : zQ} {l1 : Int64} {i3 : Int32} {l4 : Int64} (h : WP d m_N_does 0 [some (.ref 10), some (.long l1), none, some (.int i3), some (.long l4), none, none, none, none] [] w Q) : WM d m_N_does 9 [.ref 10, .long l1, .int i3, .long l4] w Q := h
theorem n_N_split {d : Nat} {w : zW} {Q : zQ} {i1 : Int32} {i2 : Int32} (h : WP d m_N_split 0 [some (.ref 10), some (.int i1), some (.int i2), none] [] w Q) : WM d m_N_split 4 [.ref 10, .int i1, .int i2] w Q := h
theorem n_N_fewestDug {d : Nat} {w : zW} {Q : zQ} {l1 : Int64} {l3 : Int64} {l5 : Int64} (h : WP d m_N_fewestDug 0 [some (.ref 10), some (.long l1), none, some (.long l3), none, some (.long l5), none, none, none, none, none, none] [] w Q) : WM d m_N_fewestDug 12 [.ref 10, .long l1, .long l3, .long l5] w Q := h
theorem n_N_dug {d : Nat} {w : zW} {Q : zQ} {i1 : Int32} {i2 : Int32} {i3 : Int32} (h : WP d m_N_dug 0 [some (.ref 10), some (.int i1), some (.int i2), some (.int i3), none, none, none, none, none, none, none, none, none, none, none, none, none, none] [] w Q) : WM d m_N_dug 18 [.ref 10, .int i1, .int i2, .int i3] w Q := h
theorem n_N_loophole {d : Nat} {w : zW} {Q : zQ}  (h : WP d m_N_loophole 0 [some (.ref 10), none, none, none, none] [] w Q) : WM d m_N_loophole 5 [.ref 10] w Q := h
theorem n_N_roofs {d : Nat} {w : zW} {Q : zQ} {i1 : Int32} (h : WP d m_N_roofs 0 [some (.ref 10), some (.int i1)] [] w Q) : WM d m_N_roofs 2 [.ref 10, .int i1] w Q := h
theorem n_N_nextOrder {d : Nat} {w : zW} {Q : zQ} {i1 : Int32} (h : WP d m_N_nextOrder 0 [some (.ref 10), some (.int i1), none, none, none, none, none] [] w Q) : WM d m_N_nextOrder 7 [.ref 10, .int i1] w Q := h
theorem n_N_off {d : Nat} {w : zW} {Q : zQ} {i0 : Int32} {i1 : Int32} (h : WP d m_N_off 0 [some (.int i0), some (.int i1)] [] w Q) : WM d m_N_off 2 [.int i0, .int i1] w Q := h
theorem n_N_apart {d : Nat} {w : zW} {Q : zQ} {i0 : Int32} {i1 : Int32} (h : WP d m_N_apart 0 [some (.int i0), some (.int i1)] [] w Q) : WM d m_N_apart 2 [.int i0, .int i1] w Q := h
theorem n_N_nearest {d : Nat} {w : zW} {Q : zQ} {l0 : Int64} {i2 : Int32} (h : WP d m_N_nearest 0 [some (.long l0), none, some (.int i2), none, none] [] w Q) : WM d m_N_nearest 5 [.long l0, .int i2] w Q := h
theorem n_N_stepsOf {d : Nat} {w : zW} {Q : zQ} {i1 : Int32} {i2 : Int32} (h : WP d m_N_stepsOf 0 [some (.ref 10), some (.int i1), some (.int i2), none, none, none, none] [] w Q) : WM d m_N_stepsOf 7 [.ref 10, .int i1, .int i2] w Q := h
theorem n_N_round {d : Nat} {w : zW} {Q : zQ} {i1 : Int32} {i2 : Int32} (h : WP d m_N_round 0 [some (.ref 10), some (.int i1), some (.int i2), none, none, none, none, none] [] w Q) : WM d m_N_round 8 [.ref 10, .int i1, .int i2] w Q := h
theorem n_N_border {d : Nat} {w : zW} {Q : zQ} {i1 : Int32} (h : WP d m_N_border 0 [some (.ref 10), some (.int i1), none, none] [] w Q) : WM d m_N_border 4 [.ref 10, .int i1] w Q := h
theorem n_N_cut {d : Nat} {w : zW} {Q : zQ} {i1 : Int32} (h : WP d m_N_cut 0 [some (.ref 10), some (.int i1), none, none, none, none, none, none] [] w Q) : WM d m_N_cut 8 [.ref 10, .int i1] w Q := h
theorem n_N_books {d : Nat} {w : zW} {Q : zQ} {l1 : Int64} {i3 : Int32} {i4 : Int32} {i5 : Int32} (h : WP d m_N_books 0 [some (.ref 10), some (.long l1), none, some (.int i3), some (.int i4), some (.int i5), none, none, none, none, none, none, none, none, none, none, none, none, none] [] w Q) : WM d m_N_books 19 [.ref 10, .long l1, .int i3, .int i4, .int i5] w Q := h
theorem n_N_nextDraw {d : Nat} {w : zW} {Q : zQ} {i1 : Int32} (h : WP d m_N_nextDraw 0 [some (.ref 10), some (.int i1)] [] w Q) : WM d m_N_nextDraw 2 [.ref 10, .int i1] w Q := h
theorem n_N_lots {d : Nat} {w : zW} {Q : zQ} {i1 : Int32} (h : WP d m_N_lots 0 [some (.ref 10), some (.int i1), none, none, none, none] [] w Q) : WM d m_N_lots 6 [.ref 10, .int i1] w Q := h
theorem n_N_seed {d : Nat} {w : zW} {Q : zQ} {i1 : Int32} (h : WP d m_N_seed 0 [some (.ref 10), some (.int i1), none] [] w Q) : WM d m_N_seed 3 [.ref 10, .int i1] w Q := h
theorem n_N_carried {d : Nat} {w : zW} {Q : zQ} {i1 : Int32} {i2 : Int32} {i3 : Int32} (h : WP d m_N_carried 0 [some (.ref 10), some (.int i1), some (.int i2), some (.int i3), none] [] w Q) : WM d m_N_carried 5 [.ref 10, .int i1, .int i2, .int i3] w Q := h
theorem n_N_image {d : Nat} {w : zW} {Q : zQ}  (h : WP d m_N_image 0 [some (.ref 10), none] [] w Q) : WM d m_N_image 2 [.ref 10] w Q := h
theorem n_N_restore {d : Nat} {w : zW} {Q : zQ}  (h : WP d m_N_restore 0 [some (.ref 10), none] [] w Q) : WM d m_N_restore 2 [.ref 10] w Q := h
theorem n_N_isSheet {d : Nat} {w : zW} {Q : zQ} {i0 : Int32} {i1 : Int32} (h : WP d m_N_isSheet 0 [some (.int i0), some (.int i1)] [] w Q) : WM d m_N_isSheet 2 [.int i0, .int i1] w Q := h
theorem n_N_asLane {d : Nat} {w : zW} {Q : zQ} {i0 : Int32} {l1 : Int64} (h : WP d m_N_asLane 0 [some (.int i0), some (.long l1), none] [] w Q) : WM d m_N_asLane 3 [.int i0, .long l1] w Q := h
theorem n_N_sheet {d : Nat} {w : zW} {Q : zQ} {i1 : Int32} {i2 : Int32} {i3 : Int32} (h : WP d m_N_sheet 0 [some (.ref 10), some (.int i1), some (.int i2), some (.int i3), none] [] w Q) : WM d m_N_sheet 5 [.ref 10, .int i1, .int i2, .int i3] w Q := h
theorem n_N_drop {d : Nat} {w : zW} {Q : zQ} {i1 : Int32} (h : WP d m_N_drop 0 [some (.ref 10), some (.int i1)] [] w Q) : WM d m_N_drop 2 [.ref 10, .int i1] w Q := h
theorem n_N_lacksRow {d : Nat} {w : zW} {Q : zQ} {i1 : Int32} {i2 : Int32} {i3 : Int32} {i4 : Int32} (h : WP d m_N_lacksRow 0 [some (.ref 10), some (.int i1), some (.int i2), some (.int i3), some (.int i4)] [] w Q) : WM d m_N_lacksRow 5 [.ref 10, .int i1, .int i2, .int i3, .int i4] w Q := h
theorem n_N_item {d : Nat} {w : zW} {Q : zQ} {i1 : Int32} {i2 : Int32} {i3 : Int32} {l4 : Int64} (h : WP d m_N_item 0 [some (.ref 10), some (.int i1), some (.int i2), some (.int i3), some (.long l4), none, none] [] w Q) : WM d m_N_item 7 [.ref 10, .int i1, .int i2, .int i3, .long l4] w Q := h
theorem n_N_lay {d : Nat} {w : zW} {Q : zQ} {i1 : Int32} {i2 : Int32} {i3 : Int32} {i4 : Int32} {i5 : Int32} (h : WP d m_N_lay 0 [some (.ref 10), some (.int i1), some (.int i2), some (.int i3), some (.int i4), some (.int i5), none, none, none, none] [] w Q) : WM d m_N_lay 10 [.ref 10, .int i1, .int i2, .int i3, .int i4, .int i5] w Q := h
theorem n_N_film {d : Nat} {w : zW} {Q : zQ} {i1 : Int32} {i2 : Int32} {i3 : Int32} (h : WP d m_N_film 0 [some (.ref 10), some (.int i1), some (.int i2), some (.int i3), none, none] [] w Q) : WM d m_N_film 6 [.ref 10, .int i1, .int i2, .int i3] w Q := h
theorem n_N_miscounted {d : Nat} {w : zW} {Q : zQ} {i1 : Int32} {i2 : Int32} {i3 : Int32} {i4 : Int32} (h : WP d m_N_miscounted 0 [some (.ref 10), some (.int i1), some (.int i2), some (.int i3), some (.int i4), none, none, none, none, none, none, none] [] w Q) : WM d m_N_miscounted 12 [.ref 10, .int i1, .int i2, .int i3, .int i4] w Q := h
theorem n_N_copy {d : Nat} {w : zW} {Q : zQ} {i1 : Int32} {i2 : Int32} {i3 : Int32} {i4 : Int32} {i5 : Int32} (h : WP d m_N_copy 0 [some (.ref 10), some (.int i1), some (.int i2), some (.int i3), some (.int i4), some (.int i5), none] [] w Q) : WM d m_N_copy 7 [.ref 10, .int i1, .int i2, .int i3, .int i4, .int i5] w Q := h
theorem n_G_takeAll {d : Nat} {w : zW} {Q : zQ} {r0 : Nat} {r1 : Nat} (h : WP d m_G_takeAll 0 [some (.ref r0), some (.ref r1)] [] w Q) : WM d m_G_takeAll 2 [.ref r0, .ref r1] w Q := h
theorem n_G_put {d : Nat} {w : zW} {Q : zQ} {i1 : Int32} {i2 : Int32} (h : WP d m_G_put 0 [some (.ref 1), some (.int i1), some (.int i2), none, none] [] w Q) : WM d m_G_put 5 [.ref 1, .int i1, .int i2] w Q := h
theorem n_G_become {d : Nat} {w : zW} {Q : zQ} {l2 : Int64} (h : WP d m_G_become 0 [some (.ref 1), some (.ref 18), some (.long l2), none, none] [] w Q) : WM d m_G_become 5 [.ref 1, .ref 18, .long l2] w Q := h
theorem n_G_toDig {d : Nat} {w : zW} {Q : zQ} {i1 : Int32} (h : WP d m_G_toDig 0 [some (.ref 1), some (.int i1)] [] w Q) : WM d m_G_toDig 2 [.ref 1, .int i1] w Q := h
theorem n_G_toFill {d : Nat} {w : zW} {Q : zQ} {i1 : Int32} (h : WP d m_G_toFill 0 [some (.ref 1), some (.int i1), none] [] w Q) : WM d m_G_toFill 3 [.ref 1, .int i1] w Q := h
theorem n_G_toRoof {d : Nat} {w : zW} {Q : zQ} {i1 : Int32} (h : WP d m_G_toRoof 0 [some (.ref 1), some (.int i1)] [] w Q) : WM d m_G_toRoof 2 [.ref 1, .int i1] w Q := h
theorem n_G_repaired {d : Nat} {w : zW} {Q : zQ} {i1 : Int32} (h : WP d m_G_repaired 0 [some (.ref 1), some (.int i1), none] [] w Q) : WM d m_G_repaired 3 [.ref 1, .int i1] w Q := h
theorem n_G_remember {d : Nat} {w : zW} {Q : zQ} {i1 : Int32} (h : WP d m_G_remember 0 [some (.ref 1), some (.int i1)] [] w Q) : WM d m_G_remember 2 [.ref 1, .int i1] w Q := h
theorem n_G_forget {d : Nat} {w : zW} {Q : zQ}  (h : WP d m_G_forget 0 [some (.ref 1)] [] w Q) : WM d m_G_forget 1 [.ref 1] w Q := h
theorem n_G_takeBack {d : Nat} {w : zW} {Q : zQ}  (h : WP d m_G_takeBack 0 [some (.ref 1), none, none] [] w Q) : WM d m_G_takeBack 3 [.ref 1] w Q := h
theorem n_G_drawn {d : Nat} {w : zW} {Q : zQ}  (h : WP d m_G_drawn 0 [some (.ref 1)] [] w Q) : WM d m_G_drawn 1 [.ref 1] w Q := h
theorem n_G_yearByLot {d : Nat} {w : zW} {Q : zQ}  (h : WP d m_G_yearByLot 0 [some (.ref 1), none] [] w Q) : WM d m_G_yearByLot 2 [.ref 1] w Q := h
theorem n_G_depths {d : Nat} {w : zW} {Q : zQ}  (h : WP d m_G_depths 0 [some (.ref 1), none, none, none, none, none] [] w Q) : WM d m_G_depths 6 [.ref 1] w Q := h
theorem n_G_holeAt {d : Nat} {w : zW} {Q : zQ} {i1 : Int32} (h : WP d m_G_holeAt 0 [some (.ref 1), some (.int i1)] [] w Q) : WM d m_G_holeAt 2 [.ref 1, .int i1] w Q := h
theorem n_G_kindOf {d : Nat} {w : zW} {Q : zQ} {l1 : Int64} {l3 : Int64} (h : WP d m_G_kindOf 0 [some (.ref 1), some (.long l1), none, some (.long l3), none, none, none] [] w Q) : WM d m_G_kindOf 7 [.ref 1, .long l1, .long l3] w Q := h
theorem n_G_taxOf {d : Nat} {w : zW} {Q : zQ} {l1 : Int64} {l3 : Int64} (h : WP d m_G_taxOf 0 [some (.ref 1), some (.long l1), none, some (.long l3), none, none, none] [] w Q) : WM d m_G_taxOf 7 [.ref 1, .long l1, .long l3] w Q := h
theorem n_G_taxOfAll {d : Nat} {w : zW} {Q : zQ} {l1 : Int64} {l3 : Int64} (h : WP d m_G_taxOfAll 0 [some (.ref 1), some (.long l1), none, some (.long l3), none, none, none, none, none, none, none] [] w Q) : WM d m_G_taxOfAll 11 [.ref 1, .long l1, .long l3] w Q := h
theorem n_G_landOf {d : Nat} {w : zW} {Q : zQ} {i1 : Int32} (h : WP d m_G_landOf 0 [some (.ref 1), some (.int i1), none, none, none] [] w Q) : WM d m_G_landOf 5 [.ref 1, .int i1] w Q := h
theorem n_G_ownerOf {d : Nat} {w : zW} {Q : zQ} {l1 : Int64} (h : WP d m_G_ownerOf 0 [some (.ref 1), some (.long l1), none, none, none, none, none, none, none] [] w Q) : WM d m_G_ownerOf 9 [.ref 1, .long l1] w Q := h
theorem n_G_partOf {d : Nat} {w : zW} {Q : zQ} {l1 : Int64} {i3 : Int32} (h : WP d m_G_partOf 0 [some (.ref 1), some (.long l1), none, some (.int i3), none, none, none] [] w Q) : WM d m_G_partOf 7 [.ref 1, .long l1, .int i3] w Q := h
theorem n_G_partOfAll {d : Nat} {w : zW} {Q : zQ} {i1 : Int32} (h : WP d m_G_partOfAll 0 [some (.ref 1), some (.int i1), none, none, none, none, none, none] [] w Q) : WM d m_G_partOfAll 8 [.ref 1, .int i1] w Q := h
theorem n_G_leastFilled {d : Nat} {w : zW} {Q : zQ} {i1 : Int32} (h : WP d m_G_leastFilled 0 [some (.ref 1), some (.int i1), none, none, none, none] [] w Q) : WM d m_G_leastFilled 6 [.ref 1, .int i1] w Q := h
theorem n_G_fits {d : Nat} {w : zW} {Q : zQ} {l1 : Int64} {l3 : Int64} {i5 : Int32} {i6 : Int32} (h : WP d m_G_fits 0 [some (.ref 1), some (.long l1), none, some (.long l3), none, some (.int i5), some (.int i6), none, none] [] w Q) : WM d m_G_fits 9 [.ref 1, .long l1, .long l3, .int i5, .int i6] w Q := h
theorem n_M_walk {d : Nat} {w : zW} {Q : zQ} {i1 : Int32} {l2 : Int64} (h : WP d m_M_walk 0 [some (.ref 9), some (.int i1), some (.long l2), none, none, none, none, none] [] w Q) : WM d m_M_walk 8 [.ref 9, .int i1, .long l2] w Q := h
theorem n_M_measure {d : Nat} {w : zW} {Q : zQ} {i1 : Int32} {l2 : Int64} (h : WP d m_M_measure 0 [some (.ref 9), some (.int i1), some (.long l2), none, none, none] [] w Q) : WM d m_M_measure 6 [.ref 9, .int i1, .long l2] w Q := h
theorem n_M_nearestOf {d : Nat} {w : zW} {Q : zQ} {l0 : Int64} {i2 : Int32} (h : WP d m_M_nearestOf 0 [some (.long l0), none, some (.int i2), none, none, none] [] w Q) : WM d m_M_nearestOf 6 [.long l0, .int i2] w Q := h
theorem n_M_steps {d : Nat} {w : zW} {Q : zQ} {i0 : Int32} {i1 : Int32} (h : WP d m_M_steps 0 [some (.int i0), some (.int i1)] [] w Q) : WM d m_M_steps 2 [.int i0, .int i1] w Q := h
theorem n_M_seek {d : Nat} {w : zW} {Q : zQ} {i1 : Int32} {i2 : Int32} {i3 : Int32} {i4 : Int32} {i5 : Int32} (h : WP d m_M_seek 0 [some (.ref 9), some (.int i1), some (.int i2), some (.int i3), some (.int i4), some (.int i5), none, none] [] w Q) : WM d m_M_seek 8 [.ref 9, .int i1, .int i2, .int i3, .int i4, .int i5] w Q := h
theorem n_P_has {d : Nat} {w : zW} {Q : zQ} {l0 : Int64} {i2 : Int32} (h : WP d m_P_has 0 [some (.long l0), none, some (.int i2)] [] w Q) : WM d m_P_has 3 [.long l0, .int i2] w Q := h
theorem n_P_least {d : Nat} {w : zW} {Q : zQ} {l0 : Int64} (h : WP d m_P_least 0 [some (.long l0), none] [] w Q) : WM d m_P_least 2 [.long l0] w Q := h
theorem n_P_beside {d : Nat} {w : zW} {Q : zQ} {l0 : Int64} (h : WP d m_P_beside 0 [some (.long l0), none, none, none] [] w Q) : WM d m_P_beside 4 [.long l0] w Q := h
theorem n_P_spread {d : Nat} {w : zW} {Q : zQ} {l0 : Int64} {l2 : Int64} (h : WP d m_P_spread 0 [some (.long l0), none, some (.long l2), none, none, none, none, none, none] [] w Q) : WM d m_P_spread 9 [.long l0, .long l2] w Q := h
theorem n_P_firstHole {d : Nat} {w : zW} {Q : zQ} {l0 : Int64} (h : WP d m_P_firstHole 0 [some (.long l0), none] [] w Q) : WM d m_P_firstHole 2 [.long l0] w Q := h
theorem n_P_holesOf {d : Nat} {w : zW} {Q : zQ} {l0 : Int64} (h : WP d m_P_holesOf 0 [some (.long l0), none, none, none, none] [] w Q) : WM d m_P_holesOf 5 [.long l0] w Q := h
theorem n_P_rimOf {d : Nat} {w : zW} {Q : zQ} {l0 : Int64} (h : WP d m_P_rimOf 0 [some (.long l0), none] [] w Q) : WM d m_P_rimOf 2 [.long l0] w Q := h
theorem n_P_fenceOf {d : Nat} {w : zW} {Q : zQ} {l0 : Int64} (h : WP d m_P_fenceOf 0 [some (.long l0), none, none, none] [] w Q) : WM d m_P_fenceOf 4 [.long l0] w Q := h
theorem n_P_withinOf {d : Nat} {w : zW} {Q : zQ} {l0 : Int64} (h : WP d m_P_withinOf 0 [some (.long l0), none, none, none] [] w Q) : WM d m_P_withinOf 4 [.long l0] w Q := h
theorem n_P_nestedIn {d : Nat} {w : zW} {Q : zQ} {l0 : Int64} {l2 : Int64} (h : WP d m_P_nestedIn 0 [some (.long l0), none, some (.long l2), none, none, none, none, none, none, none] [] w Q) : WM d m_P_nestedIn 10 [.long l0, .long l2] w Q := h
theorem n_P_broadestIn {d : Nat} {w : zW} {Q : zQ} {l0 : Int64} (h : WP d m_P_broadestIn 0 [some (.long l0), none, none, none, none, none, none] [] w Q) : WM d m_P_broadestIn 7 [.long l0] w Q := h
theorem n_P_mostCells {d : Nat} {w : zW} {Q : zQ} {l0 : Int64} (h : WP d m_P_mostCells 0 [some (.long l0), none, none, none, none, none, none, none, none] [] w Q) : WM d m_P_mostCells 9 [.long l0] w Q := h
theorem n_P_leastCut {d : Nat} {w : zW} {Q : zQ} {l0 : Int64} {l2 : Int64} (h : WP d m_P_leastCut 0 [some (.long l0), none, some (.long l2), none, none, none, none, none] [] w Q) : WM d m_P_leastCut 8 [.long l0, .long l2] w Q := h
theorem n_P_isInPieces {d : Nat} {w : zW} {Q : zQ} {l0 : Int64} (h : WP d m_P_isInPieces 0 [some (.long l0), none] [] w Q) : WM d m_P_isInPieces 2 [.long l0] w Q := h
theorem n_P_leastSplit {d : Nat} {w : zW} {Q : zQ} {l0 : Int64} (h : WP d m_P_leastSplit 0 [some (.long l0), none, none, none, none, none] [] w Q) : WM d m_P_leastSplit 6 [.long l0] w Q := h
theorem n_P_gapBetween {d : Nat} {w : zW} {Q : zQ} {l0 : Int64} {l2 : Int64} {l4 : Int64} {l6 : Int64} (h : WP d m_P_gapBetween 0 [some (.long l0), none, some (.long l2), none, some (.long l4), none, some (.long l6), none, none, none, none, none, none] [] w Q) : WM d m_P_gapBetween 13 [.long l0, .long l2, .long l4, .long l6] w Q := h
theorem n_P_leastDug {d : Nat} {w : zW} {Q : zQ} {l0 : Int64} {l2 : Int64} {l4 : Int64} (h : WP d m_P_leastDug 0 [some (.long l0), none, some (.long l2), none, some (.long l4), none, none, none, none, none, none, none, none, none] [] w Q) : WM d m_P_leastDug 14 [.long l0, .long l2, .long l4] w Q := h
theorem n_R_begin {d : Nat} {w : zW} {Q : zQ} {r0 : Nat} {i1 : Int32} {i2 : Int32} (h : WP d m_R_begin 0 [some (.ref r0), some (.int i1), some (.int i2), none] [] w Q) : WM d m_R_begin 4 [.ref r0, .int i1, .int i2] w Q := h
theorem n_R_spans {d : Nat} {w : zW} {Q : zQ} {r0 : Nat} {i1 : Int32} {i2 : Int32} (h : WP d m_R_spans 0 [some (.ref r0), some (.int i1), some (.int i2)] [] w Q) : WM d m_R_spans 3 [.ref r0, .int i1, .int i2] w Q := h
theorem n_R_put {d : Nat} {w : zW} {Q : zQ} {r0 : Nat} {i1 : Int32} {l2 : Int64} (h : WP d m_R_put 0 [some (.ref r0), some (.int i1), some (.long l2), none] [] w Q) : WM d m_R_put 4 [.ref r0, .int i1, .long l2] w Q := h
theorem n_R_areDepths {d : Nat} {w : zW} {Q : zQ} {r0 : Nat} {i1 : Int32} {i2 : Int32} (h : WP d m_R_areDepths 0 [some (.ref r0), some (.int i1), some (.int i2), none] [] w Q) : WM d m_R_areDepths 4 [.ref r0, .int i1, .int i2] w Q := h
theorem n_T_add {d : Nat} {w : zW} {Q : zQ} {i1 : Int32} (h : WP d m_T_add 0 [some (.ref 3), some (.int i1)] [] w Q) : WM d m_T_add 2 [.ref 3, .int i1] w Q := h
theorem n_T_wipe {d : Nat} {w : zW} {Q : zQ}  (h : WP d m_T_wipe 0 [some (.ref 3)] [] w Q) : WM d m_T_wipe 1 [.ref 3] w Q := h
theorem n_T_passBlanks {d : Nat} {w : zW} {Q : zQ}  (h : WP d m_T_passBlanks 0 [some (.ref 3)] [] w Q) : WM d m_T_passBlanks 1 [.ref 3] w Q := h
theorem n_T_isNext {d : Nat} {w : zW} {Q : zQ} {i1 : Int32} (h : WP d m_T_isNext 0 [some (.ref 3), some (.int i1)] [] w Q) : WM d m_T_isNext 2 [.ref 3, .int i1] w Q := h
theorem n_T_nextFigure {d : Nat} {w : zW} {Q : zQ} {i1 : Int32} (h : WP d m_T_nextFigure 0 [some (.ref 3), some (.int i1), none] [] w Q) : WM d m_T_nextFigure 3 [.ref 3, .int i1] w Q := h
theorem n_T_fault {d : Nat} {w : zW} {Q : zQ}  (h : WP d m_T_fault 0 [some (.ref 3)] [] w Q) : WM d m_T_fault 1 [.ref 3] w Q := h
theorem n_T_faultBehind {d : Nat} {w : zW} {Q : zQ}  (h : WP d m_T_faultBehind 0 [some (.ref 3)] [] w Q) : WM d m_T_faultBehind 1 [.ref 3] w Q := h
theorem n_T_readGround {d : Nat} {w : zW} {Q : zQ}  (h : WP d m_T_readGround 0 [some (.ref 3), none, none] [] w Q) : WM d m_T_readGround 3 [.ref 3] w Q := h
theorem n_T_readOwners {d : Nat} {w : zW} {Q : zQ}  (h : WP d m_T_readOwners 0 [some (.ref 3), none, none] [] w Q) : WM d m_T_readOwners 3 [.ref 3] w Q := h
theorem n_T_readDay {d : Nat} {w : zW} {Q : zQ}  (h : WP d m_T_readDay 0 [some (.ref 3), none, none] [] w Q) : WM d m_T_readDay 3 [.ref 3] w Q := h
theorem n_T_nextRepair {d : Nat} {w : zW} {Q : zQ}  (h : WP d m_T_nextRepair 0 [some (.ref 3), none, none, none] [] w Q) : WM d m_T_nextRepair 4 [.ref 3] w Q := h
theorem n_J_bitCount {d : Nat} {w : zW} {Q : zQ} {l0 : Int64} (h : WP d m_J_bitCount 0 [some (.long l0), none] [] w Q) : WM d m_J_bitCount 2 [.long l0] w Q := h
