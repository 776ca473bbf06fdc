/-! ===== links: fields, methods, constants, by the class that names them ===== -/
def zAW : List Cond := lw_tbl.filter goodWord
def zisn : Cond → Bool
  | .fieldLinkNest _ _ _ _ _ _ => true
  | .methodLinkNest _ _ _ _ => true
  | _ => false
def zNW : List Cond := lw_tbl.filter zisn
def zsub (a : Nat) : List Cond := match a with
  | 0 => k2_sels lw_privs
  | 1 => tables_1_1
  | 2 => tables_1_2
  | 3 => tables_1_3
  | 4 => tables_1_4
  | 5 => tables_1_5
  | _ => []
def zat (q : Nat × Nat) : Option Cond := (zsub q.1)[q.2]?
theorem zat_in {q : Nat × Nat} {c : Cond} (h : some c = zat q) : c ∈ lw_tbl := by
  obtain ⟨a, b⟩ := q
  have h1 : c ∈ zsub a := List.mem_of_getElem? h.symm
  unfold lw_tbl tables_1
  simp only [List.mem_append]
  match a, h1 with
  | 0, h1 => exact Or.inl h1
  | 1, h1 => exact Or.inr (Or.inl h1)
  | 2, h1 => exact Or.inr (Or.inr (Or.inl h1))
  | 3, h1 => exact Or.inr (Or.inr (Or.inr (Or.inl h1)))
  | 4, h1 => exact Or.inr (Or.inr (Or.inr (Or.inr (Or.inl h1))))
  | 5, h1 => exact Or.inr (Or.inr (Or.inr (Or.inr (Or.inr h1))))
  | _ + 6, h1 => exact absurd h1 List.not_mem_nil
theorem zAW_in {q : Nat × Nat} {c : Cond} (h : some c = zat q) (g : goodWord c = true) : c ∈ zAW := List.mem_filter.mpr ⟨zat_in h, g⟩
theorem zNW_in {q : Nat × Nat} {c : Cond} (h : some c = zat q) (g : zisn c = true) : c ∈ zNW := List.mem_filter.mpr ⟨zat_in h, g⟩
theorem zAW_good : ∀ w ∈ zAW, goodWord w = true := fun w h => (List.mem_filter.mp h).2
theorem zmap {α β : Type} {f g : α → β} {l : List α} (h : l.map f = l.map g) : ∀ a ∈ l, f a = g a := List.map_inj_left.mp h
def zcnL : List String := [RX0, RX1, RX3, RX4, RX5, RX6, RX2, RJ13, RJ9, RL]
def zcn (o : Nat) : String := zcnL.getD o ""
/-- field links: key, class, slot, nest mate's, place in the table -/
def zFL : List (Nat × Nat × Nat × Bool × Nat × Nat) := [(9, 0, 0, false, 1, 25), (15, 0, 1, false, 1, 27), (18, 0, 5, false, 1, 35), (22, 0, 6, false, 1, 37), (25, 0, 7, false, 1, 39), (34, 0, 2, false, 1, 29), (38, 0, 3, false, 1, 31), (41, 0, 4, false, 1, 33), (44, 0, 8, false, 1, 40), (1011, 1, 0, false, 1, 99), (1015, 1, 1, false, 1, 100), (1019, 1, 2, false, 1, 101), (1022, 1, 3, false, 1, 102), (1025, 1, 4, false, 1, 103), (1028, 1, 5, false, 1, 105), (1044, 1, 6, false, 1, 106), (2009, 2, 0, false, 1, 129), (2015, 2, 1, false, 1, 131), (2019, 2, 2, false, 1, 133), (2023, 2, 3, false, 1, 135), (3011, 3, 0, false, 1, 68), (3015, 3, 3, false, 1, 71), (3019, 3, 1, false, 1, 69), (3023, 3, 2, false, 1, 70), (3033, 3, 4, false, 1, 73), (3048, 3, 5, false, 1, 75), (4012, 4, 0, false, 1, 146), (4016, 4, 1, false, 1, 147), (4022, 4, 3, false, 1, 149), (4028, 4, 4, false, 1, 150), (4035, 4, 5, false, 1, 151), (4058, 0, 1, true, 1, 28), (4062, 0, 5, true, 1, 36), (4066, 0, 0, true, 1, 26), (4069, 0, 4, true, 1, 34), (4079, 0, 2, true, 1, 30), (4100, 3, 3, true, 1, 72), (4103, 3, 4, true, 1, 74), (4131, 3, 5, true, 1, 76), (4137, 0, 3, true, 1, 32), (4144, 0, 8, true, 1, 41), (4207, 1, 6, true, 1, 107), (4210, 1, 4, true, 1, 104), (4233, 0, 6, true, 1, 38), (4240, 4, 2, false, 1, 148), (4252, 2, 0, true, 1, 130), (4278, 2, 1, true, 1, 132), (4281, 2, 3, true, 1, 136), (4284, 2, 2, true, 1, 134), (5007, 5, 0, false, 3, 151), (5013, 5, 1, false, 3, 152), (5016, 5, 3, false, 3, 154), (5020, 5, 4, false, 3, 155), (5023, 5, 6, false, 3, 157), (5026, 5, 9, false, 3, 160), (5030, 5, 11, false, 3, 162), (5033, 5, 15, false, 3, 166), (5036, 5, 16, false, 3, 167), (5039, 5, 17, false, 3, 168), (5042, 5, 18, false, 3, 169), (5045, 5, 19, false, 3, 170), (5048, 5, 22, false, 3, 173), (5051, 5, 23, false, 3, 174), (5054, 5, 24, false, 3, 175), (5057, 5, 25, false, 3, 176), (5060, 5, 26, false, 3, 177), (5073, 5, 7, false, 3, 158), (5077, 5, 8, false, 3, 159), (5114, 5, 2, false, 3, 153), (5123, 5, 10, false, 3, 161), (5139, 5, 5, false, 3, 156), (5165, 5, 12, false, 3, 163), (5168, 5, 13, false, 3, 164), (5197, 5, 14, false, 3, 165), (5298, 5, 21, false, 3, 172), (5301, 5, 20, false, 3, 171)]
def zTs : List (u_T × Nat) := [(TX0, 9), (TX1, 7), (TX3, 4), (TX4, 6), (TX5, 6), (TX6, 27)]
def zTd (ci : Nat) : u_T × Nat := zTs.getD ci (TX0, 0)
def zFLw (q : Nat × Nat × Nat × Bool × Nat × Nat) : Cond := match q.2.2.2.1 with
  | false => Cond.fieldLink (zcn (q.1 / 1000)) (q.1 % 1000) ((zTd q.2.1).1 q.2.2.1).1 ((zTd q.2.1).1 q.2.2.1).2.1 ((zTd q.2.1).1 q.2.2.1).2.2.1
  | true => Cond.fieldLinkNest (zcn (q.1 / 1000)) (q.1 % 1000) ((zTd q.2.1).1 q.2.2.1).1 ((zTd q.2.1).1 q.2.2.1).2.1 ((zTd q.2.1).1 q.2.2.1).2.2.1 RX5
set_option maxRecDepth 100000 in
theorem zFL_eq : zFL.map (fun q => some (zFLw q)) = zFL.map (fun q => zat q.2.2.2.2) := rfl
theorem zFL_lt : zFL.all (fun q => Nat.blt q.2.2.1 (zTd q.2.1).2 && Nat.blt q.2.1 6) = true := by decide +kernel
def zKI : List (Nat × Int32 × Nat × Nat) := [(76, 1103515245, 3, 62), (77, 2147483647, 3, 63), (78, 65536, 3, 64), (4189, (-100001), 2, 189), (5249, (-100001), 4, 199), (5290, 65536, 5, 39)]
def zKL : List (Nat × Int64 × Nat × Nat) := [(47, (-1), 1, 190), (87, 63, 2, 120), (89, 67645734912, 2, 121), (91, 1090785345, 2, 122), (93, 34905131040, 2, 123), (95, 68208171135, 2, 124), (1038, (-1), 3, 0), (2030, 9, 3, 104), (4172, (-1), 2, 162), (4174, (-2), 2, 163), (4219, (-68719476736), 3, 43), (4225, (-4), 3, 49), (4290, 36, 3, 124), (5063, 35, 4, 0), (5080, (-1090785346), 4, 56), (5082, (-34905131041), 4, 57), (5084, 68719476735, 4, 58), (5094, (-1), 4, 19), (5100, 68208171135, 4, 145), (5106, 1090785345, 4, 138), (5108, 34905131040, 4, 139), (5110, 63, 4, 140), (5112, 67645734912, 4, 141), (5154, 4, 4, 32), (5156, 99, 4, 37), (5161, 32, 4, 66), (5163, 126, 4, 67), (5178, 9, 4, 84), (5188, 48, 4, 101), (5190, 51, 4, 102), (5195, 5, 4, 115), (5228, 7, 4, 153), (5239, 2, 4, 180), (5241, (-2), 4, 181), (5243, 3, 4, 186), (5250, 9999, 4, 204), (5280, 36, 5, 26), (5282, (-4), 5, 27), (5284, 1103515245, 5, 36), (5286, 12345, 5, 37), (5288, 2147483647, 5, 38), (5317, 12, 5, 90), (6017, (-34905131041), 1, 238), (6019, (-1090785346), 1, 239), (6021, 68719476735, 2, 0), (6034, (-1), 2, 65), (6036, 68208171135, 2, 154), (7314, 6148914691236517205, 2, 7), (7316, 3689348814741910323, 2, 8), (7318, 1085102592571150095, 2, 9), (9118, 4294967295, 5, 95)]
set_option maxRecDepth 100000 in
theorem zKI_eq : zKI.map (fun q => some (Cond.constant (zcn (q.1 / 1000)) (q.1 % 1000) q.2.1)) = zKI.map (fun q => zat q.2.2) := rfl
set_option maxRecDepth 100000 in
theorem zKL_eq : zKL.map (fun q => some (Cond.constantLong (zcn (q.1 / 1000)) (q.1 % 1000) q.2.1)) = zKL.map (fun q => zat q.2.2) := rfl
/-- methods: name, code, locals, answer, class, static, arguments -/
def zMI_0 : List zI := [(yX5_dig, cX5_dig, 2, some .int, 4, false, 2),
  (yX5_fill, cX5_fill, 2, some .int, 4, false, 2),
  (yX5_roof, cX5_roof, 2, some .int, 4, false, 2),
  (yX5_undo, cX5_undo, 1, some .int, 4, false, 1),
  (yX5_own, cX5_own, 4, some .int, 4, false, 3),
  (yX5_rate, cX5_rate, 3, some .int, 4, false, 2),
  (yX5_told, cX5_told, 3, some .int, 4, false, 3),
  (yX5_type, cX5_type, 2, some .int, 4, false, 2),
  (yX5_ground, cX5_ground, 2, some .int, 4, false, 1),
  (yX5_owners, cX5_owners, 2, some .int, 4, false, 1),
  (yX5_day, cX5_day, 3, some .int, 4, false, 1),
  (yX5_count, cX5_count, 2, some .int, 4, false, 2),
  (yX5_hole, cX5_hole, 5, some .int, 4, false, 3),
  (yX5_cells, cX5_cells, 5, some .long, 4, false, 3),
  (yX5_part, cX5_part, 5, some .int, 4, false, 3),
  (yX5_pays, cX5_pays, 2, some .int, 4, false, 2),
  (yX5_worth, cX5_worth, 4, some .int, 4, false, 2),
  (yX5_filled, cX5_filled, 3, some .int, 4, false, 3),
  (yX5_split, cX5_split, 5, some .int, 4, false, 3),
  (yX5_dug, cX5_dug, 8, some .int, 4, false, 4),
  (yX5_loophole, cX5_loophole, 5, some .int, 4, false, 1),
  (yX5_roofs, cX5_roofs, 4, some .int, 4, false, 2),
  (yX5_round, cX5_round, 4, some .int, 4, false, 3),
  (yX5_border, cX5_border, 4, some .int, 4, false, 2),
  (yX5_cut, cX5_cut, 4, some .int, 4, false, 2),
  (yX5_books, cX5_books, 16, some .long, 4, false, 5),
  (yX5_lots, cX5_lots, 4, some .int, 4, false, 2)]
def zMI_1 : List zI := [(yX5_seed, cX5_seed, 3, some .int, 4, false, 2),
  (yX5_image, cX5_image, 1, some .int, 4, false, 1),
  (yX5_restore, cX5_restore, 1, some .int, 4, false, 1),
  (yX5_lay, cX5_lay, 9, some .int, 4, false, 6),
  (yX5_film, cX5_film, 11, some .int, 4, false, 4),
  (yX5_miscounted, cX5_miscounted, 9, some .int, 4, false, 5),
  (yX5_sheet, cX5_sheet, 4, some .int, 4, false, 4),
  (yX5_drop, cX5_drop, 3, some .int, 4, false, 2),
  (yX5_item, cX5_item, 7, some .int, 4, false, 5),
  (yX5_copy, cX5_copy, 8, some .int, 4, false, 6),
  (yX5_isCell, cX5_isCell, 1, some .boolean, 4, true, 1),
  (yX5_isOwner, cX5_isOwner, 1, some .boolean, 4, true, 1),
  (yX5_isSheet, cX5_isSheet, 1, some .boolean, 4, true, 1),
  (yX5_isLane, cX5_isLane, 1, some .boolean, 4, true, 1),
  (yX5_refusal, cX5_refusal, 6, some .int, 4, false, 5),
  (yX5_isRight, cX5_isRight, 7, some .boolean, 4, false, 3),
  (yX5_pick, cX5_pick, 6, some .int, 4, true, 2),
  (yX6_in, cX6_in, 6, some .boolean, 5, true, 3),
  (yX6_isCell, cX6_isCell, 1, some .boolean, 5, true, 1),
  (yX6_has, cX6_has, 3, some .boolean, 5, true, 2),
  (yX6_ones, cX6_ones, 5, some .int, 5, true, 1),
  (yX6_least, cX6_least, 3, some .int, 5, true, 1),
  (yX6_look, cX6_look, 2, none, 5, false, 1),
  (yX6_beside, cX6_beside, 4, some .long, 5, true, 1),
  (yX6_grown, cX6_grown, 8, some .long, 5, true, 2),
  (yX6_holeAt, cX6_holeAt, 2, some .long, 5, false, 2),
  (yX6_rimOf, cX6_rimOf, 3, some .long, 5, false, 2)]
def zMI_2 : List zI := [(yX6_fenceOf, cX6_fenceOf, 3, some .int, 5, true, 1),
  (yX6_edge, cX6_edge, 0, some .long, 5, true, 0),
  (yX6_withinOf, cX6_withinOf, 4, some .long, 5, true, 1),
  (yX6_kindOf, cX6_kindOf, 5, some .int, 5, false, 2),
  (yX6_taxOf, cX6_taxOf, 7, some .int, 5, false, 2),
  (yX6_findHoles, cX6_findHoles, 3, none, 5, false, 1),
  (yX6_taxOfAll, cX6_taxOfAll, 3, some .int, 5, false, 1),
  (yX6_note, cX6_note, 3, none, 5, false, 2),
  (yX6_put, cX6_put, 4, none, 5, false, 4),
  (yX6_dig, cX6_dig, 2, some .int, 5, false, 2),
  (yX6_fill, cX6_fill, 3, some .int, 5, false, 2),
  (yX6_roof, cX6_roof, 2, some .int, 5, false, 2),
  (yX6_undo, cX6_undo, 1, some .int, 5, false, 1),
  (yX6_own, cX6_own, 4, some .int, 5, false, 3),
  (yX6_rate, cX6_rate, 3, some .int, 5, false, 2),
  (yX6_told, cX6_told, 3, some .int, 5, false, 3),
  (yX6_type, cX6_type, 2, some .int, 5, false, 2),
  (yX6_nextLetter, cX6_nextLetter, 1, some .int, 5, false, 1),
  (yX6_takes, cX6_takes, 3, some .boolean, 5, false, 2),
  (yX6_end, cX6_end, 2, some .int, 5, false, 2),
  (yX6_readGround, cX6_readGround, 3, some .boolean, 5, false, 1),
  (yX6_ground, cX6_ground, 3, some .int, 5, false, 1),
  (yX6_readOwners, cX6_readOwners, 3, some .boolean, 5, false, 1),
  (yX6_owners, cX6_owners, 4, some .int, 5, false, 1),
  (yX6_readAct, cX6_readAct, 4, some .boolean, 5, false, 1),
  (yX6_readDay, cX6_readDay, 2, some .boolean, 5, false, 1),
  (yX6_day, cX6_day, 6, some .int, 5, false, 1)]
def zMI_3 : List zI := [(yX6_count, cX6_count, 4, some .int, 5, false, 2),
  (yX6_owned, cX6_owned, 5, some .long, 5, false, 2),
  (yX6_ownerOf, cX6_ownerOf, 7, some .int, 5, false, 2),
  (yX6_nestedOf, cX6_nestedOf, 5, some .int, 5, false, 2),
  (yX6_largestOf, cX6_largestOf, 8, some .int, 5, true, 1),
  (yX6_hole, cX6_hole, 5, some .int, 5, false, 3),
  (yX6_cells, cX6_cells, 5, some .long, 5, false, 3),
  (yX6_partOf, cX6_partOf, 7, some .int, 5, false, 3),
  (yX6_part, cX6_part, 3, some .int, 5, false, 3),
  (yX6_pays, cX6_pays, 4, some .int, 5, false, 2),
  (yX6_worth, cX6_worth, 3, some .int, 5, false, 2),
  (yX6_filled, cX6_filled, 4, some .int, 5, false, 3),
  (yX6_fewestFilled, cX6_fewestFilled, 8, some .int, 5, false, 3),
  (yX6_does, cX6_does, 9, some .boolean, 5, false, 4),
  (yX6_split, cX6_split, 4, some .int, 5, false, 3),
  (yX6_fewestDug, cX6_fewestDug, 12, some .int, 5, false, 4),
  (yX6_dug, cX6_dug, 18, some .int, 5, false, 4),
  (yX6_loophole, cX6_loophole, 5, some .int, 5, false, 1),
  (yX6_roofs, cX6_roofs, 2, some .int, 5, false, 2),
  (yX6_nextOrder, cX6_nextOrder, 7, some .boolean, 5, false, 2),
  (yX6_off, cX6_off, 2, some .int, 5, true, 2),
  (yX6_apart, cX6_apart, 2, some .int, 5, true, 2),
  (yX6_nearest, cX6_nearest, 5, some .int, 5, true, 2),
  (yX6_stepsOf, cX6_stepsOf, 7, some .int, 5, false, 3),
  (yX6_round, cX6_round, 8, some .int, 5, false, 3),
  (yX6_border, cX6_border, 4, some .int, 5, false, 2),
  (yX6_cut, cX6_cut, 8, some .int, 5, false, 2)]
def zMI_4 : List zI := [(yX6_books, cX6_books, 19, some .long, 5, false, 5),
  (yX6_nextDraw, cX6_nextDraw, 2, some .int, 5, false, 2),
  (yX6_lots, cX6_lots, 6, some .int, 5, false, 2),
  (yX6_seed, cX6_seed, 3, some .int, 5, false, 2),
  (yX6_carried, cX6_carried, 5, some .int, 5, false, 4),
  (yX6_image, cX6_image, 2, some .int, 5, false, 1),
  (yX6_restore, cX6_restore, 2, some .int, 5, false, 1),
  (yX6_isSheet, cX6_isSheet, 2, some .boolean, 5, true, 2),
  (yX6_asLane, cX6_asLane, 3, some .long, 5, true, 2),
  (yX6_sheet, cX6_sheet, 5, some .int, 5, false, 4),
  (yX6_drop, cX6_drop, 2, some .int, 5, false, 2),
  (yX6_lacksRow, cX6_lacksRow, 5, some .int, 5, false, 5),
  (yX6_item, cX6_item, 7, some .int, 5, false, 5),
  (yX6_lay, cX6_lay, 10, some .int, 5, false, 6),
  (yX6_film, cX6_film, 6, some .int, 5, false, 4),
  (yX6_miscounted, cX6_miscounted, 12, some .int, 5, false, 5),
  (yX6_copy, cX6_copy, 7, some .int, 5, false, 6),
  (yX0_takeAll, cX0_takeAll, 2, none, 0, false, 2),
  (yX0_put, cX0_put, 5, none, 0, false, 3),
  (yX0_become, cX0_become, 5, none, 0, false, 3),
  (yX0_toDig, cX0_toDig, 2, some .int, 0, false, 2),
  (yX0_toFill, cX0_toFill, 3, some .int, 0, false, 2),
  (yX0_toRoof, cX0_toRoof, 2, some .int, 0, false, 2),
  (yX0_repaired, cX0_repaired, 3, some .boolean, 0, false, 2),
  (yX0_remember, cX0_remember, 2, none, 0, false, 2),
  (yX0_forget, cX0_forget, 1, none, 0, false, 1),
  (yX0_takeBack, cX0_takeBack, 3, some .int, 0, false, 1)]
def zMI_5 : List zI := [(yX0_drawn, cX0_drawn, 1, some .int, 0, false, 1),
  (yX0_yearByLot, cX0_yearByLot, 2, some .int, 0, false, 1),
  (yX0_depths, cX0_depths, 6, some .int, 0, false, 1),
  (yX0_holeAt, cX0_holeAt, 2, some .long, 0, false, 2),
  (yX0_kindOf, cX0_kindOf, 7, some .int, 0, false, 3),
  (yX0_taxOf, cX0_taxOf, 7, some .int, 0, false, 3),
  (yX0_taxOfAll, cX0_taxOfAll, 11, some .int, 0, false, 3),
  (yX0_landOf, cX0_landOf, 5, some .long, 0, false, 2),
  (yX0_ownerOf, cX0_ownerOf, 9, some .int, 0, false, 2),
  (yX0_partOf, cX0_partOf, 7, some .int, 0, false, 3),
  (yX0_partOfAll, cX0_partOfAll, 8, some .int, 0, false, 2),
  (yX0_leastFilled, cX0_leastFilled, 6, some .long, 0, false, 2),
  (yX0_fits, cX0_fits, 9, some .boolean, 0, false, 5),
  (yX1_walk, cX1_walk, 8, none, 1, false, 3),
  (yX1_measure, cX1_measure, 6, none, 1, false, 3),
  (yX1_nearestOf, cX1_nearestOf, 6, some .int, 1, true, 2),
  (yX1_steps, cX1_steps, 2, some .int, 1, true, 2),
  (yX1_seek, cX1_seek, 8, none, 1, false, 6),
  (yX2_has, cX2_has, 3, some .boolean, 6, true, 2),
  (yX2_least, cX2_least, 2, some .int, 6, true, 1),
  (yX2_beside, cX2_beside, 4, some .long, 6, true, 1),
  (yX2_spread, cX2_spread, 9, some .long, 6, true, 2),
  (yX2_firstHole, cX2_firstHole, 2, some .long, 6, true, 1),
  (yX2_holesOf, cX2_holesOf, 5, some .int, 6, true, 1),
  (yX2_rimOf, cX2_rimOf, 2, some .long, 6, true, 1),
  (yX2_fenceOf, cX2_fenceOf, 4, some .int, 6, true, 1),
  (yX2_withinOf, cX2_withinOf, 4, some .long, 6, true, 1)]
def zMI_6 : List zI := [(yX2_nestedIn, cX2_nestedIn, 10, some .int, 6, true, 2),
  (yX2_broadestIn, cX2_broadestIn, 7, some .int, 6, true, 1),
  (yX2_mostCells, cX2_mostCells, 9, some .long, 6, true, 1),
  (yX2_leastCut, cX2_leastCut, 8, some .int, 6, true, 2),
  (yX2_isInPieces, cX2_isInPieces, 2, some .boolean, 6, true, 1),
  (yX2_leastSplit, cX2_leastSplit, 6, some .long, 6, true, 1),
  (yX2_gapBetween, cX2_gapBetween, 13, some .int, 6, true, 4),
  (yX2_leastDug, cX2_leastDug, 14, some .long, 6, true, 3),
  (yX3_begin, cX3_begin, 4, none, 2, false, 3),
  (yX3_spans, cX3_spans, 3, some .boolean, 2, false, 3),
  (yX3_put, cX3_put, 4, none, 2, false, 3),
  (yX3_areDepths, cX3_areDepths, 4, some .boolean, 2, false, 3),
  (yX4_add, cX4_add, 2, some .int, 3, false, 2),
  (yX4_wipe, cX4_wipe, 1, none, 3, false, 1),
  (yX4_passBlanks, cX4_passBlanks, 1, none, 3, false, 1),
  (yX4_isNext, cX4_isNext, 2, some .boolean, 3, false, 2),
  (yX4_nextFigure, cX4_nextFigure, 3, some .int, 3, false, 2),
  (yX4_fault, cX4_fault, 1, some .int, 3, false, 1),
  (yX4_faultBehind, cX4_faultBehind, 1, some .int, 3, false, 1),
  (yX4_readGround, cX4_readGround, 3, some .int, 3, false, 1),
  (yX4_readOwners, cX4_readOwners, 3, some .int, 3, false, 1),
  (yX4_readDay, cX4_readDay, 3, some .int, 3, false, 1),
  (yX4_nextRepair, cX4_nextRepair, 4, some .int, 3, false, 1),
  (yJ13_bitCount_95d88, cJ13_bitCount_95d88, 2, some .int, 7, true, 1)]
abbrev zM4 : Type := (Nat × Nat) × (Nat × Nat) × (Nat × Nat) × (Nat × Nat)
def zMP_0 : List zM4 := [((1, 168), (1, 1), (1, 166), (1, 167)), ((1, 194), (1, 1), (1, 192), (1, 193)), ((1, 202), (1, 1), (1, 200), (1, 201)), ((1, 210), (1, 1), (1, 208), (1, 209)), ((1, 218), (1, 1), (1, 216), (1, 217)), ((1, 222), (1, 1), (1, 220), (1, 221)), ((1, 226), (1, 1), (1, 224), (1, 225)), ((2, 13), (1, 1), (2, 11), (2, 12)), ((2, 21), (1, 1), (2, 19), (2, 20)), ((2, 69), (1, 1), (2, 67), (2, 68)), ((2, 83), (1, 1), (2, 81), (2, 82)), ((2, 102), (1, 1), (2, 100), (2, 101)), ((2, 135), (1, 1), (2, 133), (2, 134)), ((2, 161), (1, 1), (2, 159), (2, 160)), ((2, 168), (1, 1), (2, 166), (2, 167)), ((2, 179), (1, 1), (2, 177), (2, 178)), ((2, 188), (1, 1), (2, 186), (2, 187)), ((2, 193), (1, 1), (2, 191), (2, 192)), ((2, 205), (1, 1), (2, 203), (2, 204)), ((2, 216), (1, 1), (2, 214), (2, 215)), ((2, 226), (1, 1), (2, 224), (2, 225)), ((2, 230), (1, 1), (2, 228), (2, 229)), ((2, 234), (1, 1), (2, 232), (2, 233)), ((3, 26), (1, 1), (3, 24), (3, 25)), ((3, 33), (1, 1), (3, 31), (3, 32)), ((3, 42), (1, 1), (3, 40), (3, 41)), ((3, 53), (1, 1), (3, 51), (3, 52))]
def zMP_1 : List zM4 := [((3, 69), (1, 1), (3, 67), (3, 68)), ((3, 73), (1, 1), (3, 71), (3, 72)), ((3, 81), (1, 1), (3, 79), (3, 80)), ((3, 85), (1, 1), (3, 83), (3, 84)), ((3, 109), (1, 1), (3, 107), (3, 108)), ((3, 119), (1, 1), (3, 117), (3, 118)), ((3, 128), (1, 1), (3, 126), (3, 127)), ((3, 136), (1, 1), (3, 134), (3, 135)), ((3, 140), (1, 1), (3, 138), (3, 139)), ((3, 144), (1, 1), (3, 142), (3, 143)), ((1, 171), (1, 1), (1, 170), (0, 0)), ((2, 171), (1, 1), (2, 170), (0, 0)), ((3, 92), (1, 1), (3, 91), (0, 0)), ((3, 95), (1, 1), (3, 94), (0, 0)), ((3, 89), (1, 1), (3, 88), (0, 37)), ((3, 123), (1, 1), (3, 122), (0, 41)), ((2, 201), (1, 1), (2, 200), (0, 0)), ((4, 3), (1, 6), (4, 2), (0, 0)), ((3, 239), (1, 6), (3, 238), (0, 0)), ((4, 10), (1, 6), (4, 9), (0, 0)), ((4, 125), (1, 6), (4, 124), (0, 0)), ((4, 61), (1, 6), (4, 60), (0, 0)), ((4, 45), (1, 6), (4, 44), (0, 45)), ((4, 55), (1, 6), (4, 54), (0, 0)), ((4, 52), (1, 6), (4, 51), (0, 0)), ((4, 49), (1, 6), (4, 48), (0, 46)), ((4, 157), (1, 6), (4, 156), (0, 58))]
def zMP_2 : List zM4 := [((4, 148), (1, 6), (4, 147), (0, 0)), ((4, 144), (1, 6), (4, 143), (0, 0)), ((4, 172), (1, 6), (4, 171), (0, 0)), ((4, 137), (1, 6), (4, 136), (0, 57)), ((4, 133), (1, 6), (4, 132), (0, 56)), ((4, 92), (1, 6), (4, 91), (0, 51)), ((4, 129), (1, 6), (4, 128), (0, 55)), ((4, 7), (1, 6), (4, 6), (0, 43)), ((4, 18), (1, 6), (4, 17), (0, 44)), ((3, 236), (1, 6), (3, 234), (3, 235)), ((4, 14), (1, 6), (4, 12), (4, 13)), ((4, 23), (1, 6), (4, 21), (4, 22)), ((4, 27), (1, 6), (4, 25), (4, 26)), ((4, 31), (1, 6), (4, 29), (4, 30)), ((4, 36), (1, 6), (4, 34), (4, 35)), ((4, 41), (1, 6), (4, 39), (4, 40)), ((4, 65), (1, 6), (4, 63), (4, 64)), ((4, 83), (1, 6), (4, 82), (0, 49)), ((4, 79), (1, 6), (4, 78), (0, 48)), ((4, 88), (1, 6), (4, 87), (0, 50)), ((4, 75), (1, 6), (4, 74), (0, 47)), ((4, 71), (1, 6), (4, 69), (4, 70)), ((4, 100), (1, 6), (4, 99), (0, 52)), ((4, 96), (1, 6), (4, 94), (4, 95)), ((4, 114), (1, 6), (4, 113), (0, 54)), ((4, 110), (1, 6), (4, 109), (0, 53)), ((4, 106), (1, 6), (4, 104), (4, 105))]
def zMP_3 : List zM4 := [((4, 122), (1, 6), (4, 120), (4, 121)), ((4, 165), (1, 6), (4, 164), (0, 60)), ((4, 161), (1, 6), (4, 160), (0, 59)), ((4, 169), (1, 6), (4, 168), (0, 61)), ((4, 175), (1, 6), (4, 174), (0, 0)), ((4, 152), (1, 6), (4, 150), (4, 151)), ((4, 179), (1, 6), (4, 177), (4, 178)), ((4, 190), (1, 6), (4, 189), (0, 62)), ((4, 185), (1, 6), (4, 183), (4, 184)), ((4, 194), (1, 6), (4, 192), (4, 193)), ((4, 198), (1, 6), (4, 196), (4, 197)), ((4, 203), (1, 6), (4, 201), (4, 202)), ((4, 208), (1, 6), (4, 207), (0, 63)), ((4, 212), (1, 6), (4, 211), (0, 64)), ((4, 216), (1, 6), (4, 214), (4, 215)), ((4, 224), (1, 6), (4, 223), (0, 65)), ((4, 220), (1, 6), (4, 218), (4, 219)), ((4, 228), (1, 6), (4, 226), (4, 227)), ((4, 232), (1, 6), (4, 230), (4, 231)), ((5, 13), (1, 6), (5, 12), (0, 67)), ((5, 5), (1, 6), (5, 4), (0, 0)), ((5, 2), (1, 6), (5, 1), (0, 0)), ((4, 239), (1, 6), (4, 238), (0, 0)), ((5, 9), (1, 6), (5, 8), (0, 66)), ((4, 236), (1, 6), (4, 234), (4, 235)), ((5, 17), (1, 6), (5, 15), (5, 16)), ((5, 21), (1, 6), (5, 19), (5, 20))]
def zMP_4 : List zM4 := [((5, 25), (1, 6), (5, 23), (5, 24)), ((5, 35), (1, 6), (5, 34), (0, 68)), ((5, 31), (1, 6), (5, 29), (5, 30)), ((5, 43), (1, 6), (5, 41), (5, 42)), ((5, 51), (1, 6), (5, 50), (0, 69)), ((5, 47), (1, 6), (5, 45), (5, 46)), ((5, 55), (1, 6), (5, 53), (5, 54)), ((5, 62), (1, 6), (5, 61), (0, 0)), ((5, 77), (1, 6), (5, 76), (0, 0)), ((5, 59), (1, 6), (5, 57), (5, 58)), ((5, 66), (1, 6), (5, 64), (5, 65)), ((5, 74), (1, 6), (5, 73), (0, 70)), ((5, 70), (1, 6), (5, 68), (5, 69)), ((5, 81), (1, 6), (5, 79), (5, 80)), ((5, 85), (1, 6), (5, 83), (5, 84)), ((5, 89), (1, 6), (5, 87), (5, 88)), ((5, 94), (1, 6), (5, 92), (5, 93)), ((3, 77), (1, 2), (3, 76), (0, 36)), ((1, 189), (1, 2), (1, 188), (0, 2)), ((2, 53), (1, 2), (2, 52), (0, 15)), ((1, 175), (1, 2), (1, 174), (0, 0)), ((1, 198), (1, 2), (1, 197), (0, 3)), ((1, 206), (1, 2), (1, 205), (0, 4)), ((2, 95), (1, 2), (2, 94), (0, 21)), ((1, 179), (1, 2), (1, 178), (0, 1)), ((2, 57), (1, 2), (2, 56), (0, 16)), ((1, 214), (1, 2), (1, 213), (0, 5))]
def zMP_5 : List zM4 := [((3, 61), (1, 2), (3, 60), (0, 35)), ((3, 57), (1, 2), (3, 56), (0, 34)), ((2, 131), (1, 2), (2, 130), (0, 25)), ((1, 231), (1, 2), (1, 230), (0, 6)), ((2, 119), (1, 2), (2, 118), (0, 24)), ((2, 111), (1, 2), (2, 110), (0, 23)), ((2, 106), (1, 2), (2, 105), (0, 22)), ((2, 78), (1, 2), (2, 77), (0, 18)), ((2, 145), (1, 2), (2, 144), (0, 26)), ((2, 175), (1, 2), (2, 174), (0, 27)), ((2, 183), (1, 2), (2, 182), (0, 28)), ((2, 197), (1, 2), (2, 196), (0, 29)), ((3, 47), (1, 2), (3, 46), (0, 33)), ((2, 238), (1, 4), (2, 237), (0, 30)), ((3, 4), (1, 4), (3, 3), (0, 31)), ((3, 7), (1, 4), (3, 6), (0, 0)), ((3, 11), (1, 4), (3, 10), (0, 0)), ((3, 21), (1, 4), (3, 20), (0, 32)), ((1, 185), (1, 8), (1, 184), (0, 0)), ((2, 3), (1, 8), (2, 2), (0, 0)), ((1, 237), (1, 8), (1, 236), (0, 0)), ((1, 234), (1, 8), (1, 233), (0, 0)), ((2, 63), (1, 8), (2, 62), (0, 0)), ((2, 60), (1, 8), (2, 59), (0, 0)), ((2, 141), (1, 8), (2, 140), (0, 0)), ((2, 127), (1, 8), (2, 126), (0, 0)), ((2, 153), (1, 8), (2, 152), (0, 0))]
def zMP_6 : List zM4 := [((2, 150), (1, 8), (2, 149), (0, 0)), ((2, 157), (1, 8), (2, 156), (0, 0)), ((3, 29), (1, 8), (3, 28), (0, 0)), ((3, 36), (1, 8), (3, 35), (0, 0)), ((2, 212), (1, 8), (2, 211), (0, 0)), ((2, 208), (1, 8), (2, 207), (0, 0)), ((2, 222), (1, 8), (2, 221), (0, 0)), ((2, 219), (1, 8), (2, 218), (0, 0)), ((3, 132), (1, 5), (3, 131), (0, 42)), ((3, 99), (1, 5), (3, 98), (0, 38)), ((3, 114), (1, 5), (3, 113), (0, 40)), ((3, 103), (1, 5), (3, 102), (0, 39)), ((2, 17), (1, 3), (2, 16), (0, 7)), ((2, 49), (1, 3), (2, 48), (0, 14)), ((2, 33), (1, 3), (2, 32), (0, 10)), ((2, 29), (1, 3), (2, 28), (0, 9)), ((2, 41), (1, 3), (2, 40), (0, 12)), ((2, 37), (1, 3), (2, 36), (0, 11)), ((2, 45), (1, 3), (2, 44), (0, 13)), ((2, 25), (1, 3), (2, 24), (0, 8)), ((2, 73), (1, 3), (2, 72), (0, 17)), ((2, 87), (1, 3), (2, 86), (0, 19)), ((2, 91), (1, 3), (2, 90), (0, 20)), ((2, 6), (1, 9), (2, 5), (0, 0))]
def zMI : List zI := zMI_0 ++ (zMI_1 ++ (zMI_2 ++ (zMI_3 ++ (zMI_4 ++ (zMI_5 ++ (zMI_6)))))) ++ [(yL_law, cL_law, 4, some .boolean, 9, true, 1)]
def zMw (q : zI) : Cond × Cond × Cond × Cond := (Cond.code q.1 q.2.1 q.2.2.1 q.2.2.2.1, Cond.initialized q.1.cls, (match q.2.2.2.2.2.1 with | true => Cond.static q.1 | false => Cond.instanceMethod q.1), (match q.2.2.2.2.2.1 with | true => Cond.static q.1 | false => Cond.selects q.1.cls q.1 q.1))
def zMc (q : zI) : Bool := decide (q.1.cls = zcn q.2.2.2.2.1) && plainName q.1.cls && decide ((parseMethodDescriptor q.1.desc).map (fun d => d.parameters.length + (match q.2.2.2.2.2.1 with | true => 0 | false => 1)) = some q.2.2.2.2.2.2)
set_option maxRecDepth 100000 in
theorem zMI_a0 : (zMI_0.zip zMP_0).map (fun q => some (zMw q.1).1) = (zMI_0.zip zMP_0).map (fun q => zat q.2.1) := rfl
set_option maxRecDepth 100000 in
theorem zMI_b0 : (zMI_0.zip zMP_0).map (fun q => some (zMw q.1).2.1) = (zMI_0.zip zMP_0).map (fun q => zat q.2.2.1) := rfl
set_option maxRecDepth 100000 in
theorem zMI_c0 : (zMI_0.zip zMP_0).map (fun q => some (zMw q.1).2.2.1) = (zMI_0.zip zMP_0).map (fun q => zat q.2.2.2.1) := rfl
set_option maxRecDepth 100000 in
theorem zMI_d0 : (zMI_0.zip zMP_0).map (fun q => match q.1.2.2.2.2.2.1 with | true => none | false => some (zMw q.1).2.2.2) = (zMI_0.zip zMP_0).map (fun q => match q.1.2.2.2.2.2.1 with | true => none | false => zat q.2.2.2.2) := rfl
theorem zMI_l0 : zMI_0.length = zMP_0.length := by decide +kernel
set_option maxRecDepth 100000 in
theorem zMI_k0 : zMI_0.all zMc = true := by decide +kernel
set_option maxRecDepth 100000 in
theorem zMI_a1 : (zMI_1.zip zMP_1).map (fun q => some (zMw q.1).1) = (zMI_1.zip zMP_1).map (fun q => zat q.2.1) := rfl
set_option maxRecDepth 100000 in
theorem zMI_b1 : (zMI_1.zip zMP_1).map (fun q => some (zMw q.1).2.1) = (zMI_1.zip zMP_1).map (fun q => zat q.2.2.1) := rfl
set_option maxRecDepth 100000 in
theorem zMI_c1 : (zMI_1.zip zMP_1).map (fun q => some (zMw q.1).2.2.1) = (zMI_1.zip zMP_1).map (fun q => zat q.2.2.2.1) := rfl
set_option maxRecDepth 100000 in
theorem zMI_d1 : (zMI_1.zip zMP_1).map (fun q => match q.1.2.2.2.2.2.1 with | true => none | false => some (zMw q.1).2.2.2) = (zMI_1.zip zMP_1).map (fun q => match q.1.2.2.2.2.2.1 with | true => none | false => zat q.2.2.2.2) := rfl
theorem zMI_l1 : zMI_1.length = zMP_1.length := by decide +kernel
set_option maxRecDepth 100000 in
theorem zMI_k1 : zMI_1.all zMc = true := by decide +kernel
set_option maxRecDepth 100000 in
theorem zMI_a2 : (zMI_2.zip zMP_2).map (fun q => some (zMw q.1).1) = (zMI_2.zip zMP_2).map (fun q => zat q.2.1) := rfl
set_option maxRecDepth 100000 in
theorem zMI_b2 : (zMI_2.zip zMP_2).map (fun q => some (zMw q.1).2.1) = (zMI_2.zip zMP_2).map (fun q => zat q.2.2.1) := rfl
set_option maxRecDepth 100000 in
theorem zMI_c2 : (zMI_2.zip zMP_2).map (fun q => some (zMw q.1).2.2.1) = (zMI_2.zip zMP_2).map (fun q => zat q.2.2.2.1) := rfl
set_option maxRecDepth 100000 in
theorem zMI_d2 : (zMI_2.zip zMP_2).map (fun q => match q.1.2.2.2.2.2.1 with | true => none | false => some (zMw q.1).2.2.2) = (zMI_2.zip zMP_2).map (fun q => match q.1.2.2.2.2.2.1 with | true => none | false => zat q.2.2.2.2) := rfl
theorem zMI_l2 : zMI_2.length = zMP_2.length := by decide +kernel
set_option maxRecDepth 100000 in
theorem zMI_k2 : zMI_2.all zMc = true := by decide +kernel
set_option maxRecDepth 100000 in
theorem zMI_a3 : (zMI_3.zip zMP_3).map (fun q => some (zMw q.1).1) = (zMI_3.zip zMP_3).map (fun q => zat q.2.1) := rfl
set_option maxRecDepth 100000 in
theorem zMI_b3 : (zMI_3.zip zMP_3).map (fun q => some (zMw q.1).2.1) = (zMI_3.zip zMP_3).map (fun q => zat q.2.2.1) := rfl
set_option maxRecDepth 100000 in
theorem zMI_c3 : (zMI_3.zip zMP_3).map (fun q => some (zMw q.1).2.2.1) = (zMI_3.zip zMP_3).map (fun q => zat q.2.2.2.1) := rfl
set_option maxRecDepth 100000 in
theorem zMI_d3 : (zMI_3.zip zMP_3).map (fun q => match q.1.2.2.2.2.2.1 with | true => none | false => some (zMw q.1).2.2.2) = (zMI_3.zip zMP_3).map (fun q => match q.1.2.2.2.2.2.1 with | true => none | false => zat q.2.2.2.2) := rfl
theorem zMI_l3 : zMI_3.length = zMP_3.length := by decide +kernel
set_option maxRecDepth 100000 in
theorem zMI_k3 : zMI_3.all zMc = true := by decide +kernel
set_option maxRecDepth 100000 in
theorem zMI_a4 : (zMI_4.zip zMP_4).map (fun q => some (zMw q.1).1) = (zMI_4.zip zMP_4).map (fun q => zat q.2.1) := rfl
set_option maxRecDepth 100000 in
theorem zMI_b4 : (zMI_4.zip zMP_4).map (fun q => some (zMw q.1).2.1) = (zMI_4.zip zMP_4).map (fun q => zat q.2.2.1) := rfl
set_option maxRecDepth 100000 in
theorem zMI_c4 : (zMI_4.zip zMP_4).map (fun q => some (zMw q.1).2.2.1) = (zMI_4.zip zMP_4).map (fun q => zat q.2.2.2.1) := rfl
set_option maxRecDepth 100000 in
theorem zMI_d4 : (zMI_4.zip zMP_4).map (fun q => match q.1.2.2.2.2.2.1 with | true => none | false => some (zMw q.1).2.2.2) = (zMI_4.zip zMP_4).map (fun q => match q.1.2.2.2.2.2.1 with | true => none | false => zat q.2.2.2.2) := rfl
theorem zMI_l4 : zMI_4.length = zMP_4.length := by decide +kernel
set_option maxRecDepth 100000 in
theorem zMI_k4 : zMI_4.all zMc = true := by decide +kernel
set_option maxRecDepth 100000 in
theorem zMI_a5 : (zMI_5.zip zMP_5).map (fun q => some (zMw q.1).1) = (zMI_5.zip zMP_5).map (fun q => zat q.2.1) := rfl
set_option maxRecDepth 100000 in
theorem zMI_b5 : (zMI_5.zip zMP_5).map (fun q => some (zMw q.1).2.1) = (zMI_5.zip zMP_5).map (fun q => zat q.2.2.1) := rfl
set_option maxRecDepth 100000 in
theorem zMI_c5 : (zMI_5.zip zMP_5).map (fun q => some (zMw q.1).2.2.1) = (zMI_5.zip zMP_5).map (fun q => zat q.2.2.2.1) := rfl
set_option maxRecDepth 100000 in
theorem zMI_d5 : (zMI_5.zip zMP_5).map (fun q => match q.1.2.2.2.2.2.1 with | true => none | false => some (zMw q.1).2.2.2) = (zMI_5.zip zMP_5).map (fun q => match q.1.2.2.2.2.2.1 with | true => none | false => zat q.2.2.2.2) := rfl
theorem zMI_l5 : zMI_5.length = zMP_5.length := by decide +kernel
set_option maxRecDepth 100000 in
theorem zMI_k5 : zMI_5.all zMc = true := by decide +kernel
set_option maxRecDepth 100000 in
theorem zMI_a6 : (zMI_6.zip zMP_6).map (fun q => some (zMw q.1).1) = (zMI_6.zip zMP_6).map (fun q => zat q.2.1) := rfl
set_option maxRecDepth 100000 in
theorem zMI_b6 : (zMI_6.zip zMP_6).map (fun q => some (zMw q.1).2.1) = (zMI_6.zip zMP_6).map (fun q => zat q.2.2.1) := rfl
set_option maxRecDepth 100000 in
theorem zMI_c6 : (zMI_6.zip zMP_6).map (fun q => some (zMw q.1).2.2.1) = (zMI_6.zip zMP_6).map (fun q => zat q.2.2.2.1) := rfl
set_option maxRecDepth 100000 in
theorem zMI_d6 : (zMI_6.zip zMP_6).map (fun q => match q.1.2.2.2.2.2.1 with | true => none | false => some (zMw q.1).2.2.2) = (zMI_6.zip zMP_6).map (fun q => match q.1.2.2.2.2.2.1 with | true => none | false => zat q.2.2.2.2) := rfl
theorem zMI_l6 : zMI_6.length = zMP_6.length := by decide +kernel
set_option maxRecDepth 100000 in
theorem zMI_k6 : zMI_6.all zMc = true := by decide +kernel
/-- method links: key, method, nest mate's, place -/
def zML : List (Nat × Nat × Bool × Nat × Nat) := [(49, 126, false, 1, 186), (53, 133, false, 2, 54), (56, 132, false, 1, 176), (60, 153, true, 1, 183), (66, 128, false, 2, 96), (70, 129, false, 2, 97), (73, 130, false, 2, 98), (79, 135, false, 3, 58), (83, 156, true, 1, 232), (97, 185, false, 2, 112), (109, 139, false, 2, 116), (113, 160, true, 2, 125), (116, 157, true, 2, 107), (120, 140, false, 2, 108), (123, 159, true, 2, 146), (126, 142, false, 2, 147), (130, 144, false, 2, 184), (134, 141, false, 2, 198), (137, 158, true, 3, 48), (1032, 157, true, 2, 239), (1040, 149, false, 3, 1), (1047, 152, false, 3, 18), (1051, 150, false, 3, 5), (1055, 153, true, 3, 8), (1059, 151, false, 3, 9), (1072, 154, true, 3, 22), (2026, 171, false, 3, 115), (3026, 176, false, 2, 30), (3029, 179, false, 2, 34), (3037, 177, false, 2, 26), (3041, 178, false, 2, 38), (3045, 180, false, 2, 42), (3051, 184, false, 2, 88), (4040, 37, false, 1, 169), (4044, 128, true, 1, 172), (4048, 129, true, 1, 195), (4051, 130, true, 1, 203), (4054, 134, true, 1, 211), (4073, 153, true, 1, 227), (4082, 138, true, 1, 228), (4086, 154, true, 2, 1), (4090, 174, true, 2, 14), (4094, 181, true, 2, 22), (4097, 175, true, 2, 46), (4104, 127, true, 2, 50), (4108, 158, true, 2, 58), (4111, 182, true, 2, 70), (4120, 142, true, 2, 75), (4123, 185, false, 2, 79), (4128, 183, true, 2, 84), (4134, 131, true, 2, 92), (4140, 141, true, 2, 103), (4147, 137, true, 2, 128), (4150, 139, true, 2, 136), (4153, 140, true, 2, 137), (4156, 160, true, 2, 138), (4159, 159, true, 2, 139), (4163, 143, true, 2, 142), (4166, 162, true, 2, 148), (4169, 163, true, 2, 155), (4176, 161, true, 2, 164), (4179, 38, false, 2, 169), (4182, 144, true, 2, 172), (4186, 145, true, 2, 180), (4190, 146, true, 2, 194), (4193, 43, false, 2, 199), (4196, 167, true, 2, 206), (4199, 169, true, 2, 217), (4203, 148, true, 2, 235), (4213, 164, true, 3, 27), (4216, 165, true, 3, 34), (4221, 147, true, 3, 44), (4227, 136, true, 3, 54), (4230, 133, true, 3, 65), (4236, 125, true, 3, 74), (4244, 41, false, 3, 86), (4248, 173, true, 3, 100), (4256, 126, true, 3, 105), (4260, 157, true, 3, 110), (4263, 172, true, 3, 111), (4265, 42, false, 3, 120), (4269, 39, false, 3, 90), (4272, 40, false, 3, 93), (4275, 170, true, 3, 129), (4287, 171, true, 3, 96), (5065, 44, false, 4, 1), (5069, 46, false, 4, 8), (5086, 50, false, 4, 53), (5090, 51, false, 4, 50), (5096, 47, false, 4, 123), (5102, 55, false, 4, 142), (5117, 57, false, 4, 134), (5120, 54, false, 4, 146), (5126, 48, false, 4, 59), (5129, 52, false, 4, 46), (5133, 59, false, 4, 89), (5136, 58, false, 4, 130), (5142, 45, false, 3, 237), (5146, 61, false, 4, 4), (5150, 62, false, 4, 15), (5158, 49, false, 4, 42), (5171, 71, false, 4, 80), (5175, 72, false, 4, 76), (5180, 74, false, 4, 72), (5184, 73, false, 4, 85), (5192, 76, false, 4, 97), (5200, 78, false, 4, 111), (5203, 79, false, 4, 107), (5206, 63, false, 4, 116), (5210, 64, false, 4, 117), (5213, 65, false, 4, 118), (5216, 60, false, 4, 126), (5219, 53, false, 4, 154), (5222, 82, false, 4, 162), (5225, 56, false, 4, 170), (5230, 83, false, 4, 158), (5233, 84, false, 4, 166), (5236, 85, false, 4, 173), (5245, 88, false, 4, 187), (5252, 93, false, 4, 205), (5256, 94, false, 4, 209), (5260, 96, false, 4, 221), (5264, 101, false, 5, 3), (5268, 102, false, 5, 0), (5271, 103, false, 4, 237), (5274, 104, false, 5, 6), (5277, 100, false, 5, 10), (5291, 109, false, 5, 32), (5294, 112, false, 5, 48), (5305, 115, false, 5, 60), (5309, 119, false, 5, 71), (5313, 116, false, 5, 75), (6011, 185, false, 2, 4), (6023, 155, false, 1, 235), (6027, 156, false, 2, 64), (6031, 157, false, 2, 61), (6038, 161, false, 2, 151), (6041, 163, false, 3, 37), (6044, 159, false, 3, 38), (6047, 153, false, 2, 209), (6051, 166, false, 2, 210), (6055, 168, false, 2, 220), (9013, 0, false, 1, 165), (9017, 63, false, 3, 233), (9018, 1, false, 1, 191), (9021, 64, false, 4, 11), (9022, 2, false, 1, 199), (9025, 65, false, 4, 20), (9026, 3, false, 1, 207), (9030, 66, false, 4, 24), (9031, 4, false, 1, 215), (9035, 67, false, 4, 28), (9036, 5, false, 1, 219), (9039, 68, false, 4, 33), (9040, 6, false, 1, 223), (9043, 69, false, 4, 38), (9044, 7, false, 2, 10), (9047, 70, false, 4, 62), (9048, 8, false, 2, 18), (9051, 75, false, 4, 68), (9052, 9, false, 2, 66), (9055, 77, false, 4, 93), (9056, 10, false, 2, 80), (9059, 80, false, 4, 103), (9060, 11, false, 2, 99), (9063, 81, false, 4, 119), (9064, 12, false, 2, 132), (9067, 86, false, 4, 149), (9068, 13, false, 2, 158), (9072, 87, false, 4, 176), (9073, 14, false, 2, 165), (9076, 89, false, 4, 182), (9077, 15, false, 2, 176), (9080, 90, false, 4, 191), (9081, 16, false, 2, 185), (9084, 91, false, 4, 195), (9085, 17, false, 2, 190), (9088, 92, false, 4, 200), (9089, 18, false, 2, 202), (9092, 95, false, 4, 213), (9093, 19, false, 2, 213), (9097, 97, false, 4, 217), (9098, 20, false, 2, 223), (9101, 98, false, 4, 225), (9102, 21, false, 2, 227), (9105, 99, false, 4, 229), (9106, 22, false, 2, 231), (9109, 105, false, 4, 233), (9110, 23, false, 3, 23), (9113, 106, false, 5, 14), (9114, 24, false, 3, 30), (9117, 107, false, 5, 18), (9120, 25, false, 3, 39), (9124, 108, false, 5, 22), (9125, 26, false, 3, 50), (9128, 110, false, 5, 28), (9129, 27, false, 3, 66), (9132, 111, false, 5, 40), (9133, 28, false, 3, 70), (9136, 113, false, 5, 44), (9137, 29, false, 3, 78), (9140, 114, false, 5, 52), (9141, 30, false, 3, 82), (9145, 121, false, 5, 78), (9146, 31, false, 3, 106), (9149, 122, false, 5, 82), (9150, 32, false, 3, 116), (9154, 123, false, 5, 86), (9155, 33, false, 3, 125), (9158, 117, false, 5, 56), (9159, 34, false, 3, 133), (9162, 118, false, 5, 63), (9163, 35, false, 3, 137), (9167, 120, false, 5, 67), (9168, 36, false, 3, 141), (9171, 124, false, 5, 91)]
def zMd (z : Nat) : zI := zMI.getD z (yL_law, cL_law, 0, none, 9, true, 0)
def zMLw (q : Nat × Nat × Bool × Nat × Nat) : Cond := match q.2.2.1 with
  | false => Cond.methodLink (zcn (q.1 / 1000)) (q.1 % 1000) (zMd q.2.1).1
  | true => Cond.methodLinkNest (zcn (q.1 / 1000)) (q.1 % 1000) (zMd q.2.1).1 RX5
set_option maxRecDepth 100000 in
theorem zML_eq : zML.map (fun q => some (zMLw q)) = zML.map (fun q => zat q.2.2.2) := rfl
theorem zML_lt : zML.all (fun q => Nat.blt q.2.1 186) = true := by decide +kernel
theorem zMI_len : zMI.length = 187 := by decide +kernel
def zCL : List (Nat × Nat × Nat) := [(28, 1, 180), (4114, 2, 74)]
set_option maxRecDepth 100000 in
theorem zCL_eq : zCL.map (fun q => some (Cond.methodLink (zcn (q.1 / 1000)) (q.1 % 1000) arraycopyName)) = zCL.map (fun q => zat q.2) := rfl
def zXL : List (Nat × Nat × Nat × Nat) := [(103, 0, 2, 113), (1063, 1, 3, 15), (1068, 2, 3, 12)]
def zXn (k : Nat) : MethodName := match k with
  | 0 => Lib.Math.max.name
  | 1 => Lib.Math.min.name
  | _ => Lib.Math.abs.name
set_option maxRecDepth 100000 in
theorem zXL_eq : zXL.map (fun q => some (Cond.methodLink (zcn (q.1 / 1000)) (q.1 % 1000) (zXn q.2.1))) = zXL.map (fun q => zat q.2.2) := rfl
theorem zmx_max : Cond.static Lib.Math.max.name ∈ zAW ∧ Cond.code Lib.Math.max.name Lib.Math.max.code 2 (some .int) ∈ zAW := ⟨zAW_in (q := (2, 114)) rfl rfl, zAW_in (q := (2, 115)) rfl rfl⟩
theorem zmx_min : Cond.static Lib.Math.min.name ∈ zAW ∧ Cond.code Lib.Math.min.name Lib.Math.min.code 2 (some .int) ∈ zAW := ⟨zAW_in (q := (3, 16)) rfl rfl, zAW_in (q := (3, 17)) rfl rfl⟩
theorem zmx_abs : Cond.static Lib.Math.abs.name ∈ zAW ∧ Cond.code Lib.Math.abs.name Lib.Math.abs.code 1 (some .int) ∈ zAW := ⟨zAW_in (q := (3, 13)) rfl rfl, zAW_in (q := (3, 14)) rfl rfl⟩
theorem zmx_ini : Cond.initialized "java/lang/Math" ∈ zAW := zAW_in (q := (1, 10)) rfl rfl
theorem zac_nat : Cond.native arraycopyName ∈ zAW := zAW_in (q := (1, 182)) rfl rfl
theorem zac_stat : Cond.static arraycopyName ∈ zAW := zAW_in (q := (1, 181)) rfl rfl
theorem zac_ini : Cond.initialized "java/lang/System" ∈ zAW := zAW_in (q := (1, 7)) rfl rfl
def zlayp : List (List (Nat × Nat)) := [[(1, 42), (1, 44), (1, 46), (1, 48), (1, 50), (1, 52), (1, 54), (1, 56), (1, 58)], [(1, 108), (1, 110), (1, 112), (1, 114), (1, 116), (1, 118), (1, 120)], [(1, 137), (1, 139), (1, 141), (1, 143)], [(1, 77), (1, 79), (1, 81), (1, 83), (1, 85), (1, 87)], [(1, 152), (1, 154), (1, 156), (1, 158), (1, 160), (1, 162)], [(3, 178), (3, 180), (3, 182), (3, 184), (3, 186), (3, 188), (3, 190), (3, 192), (3, 194), (3, 196), (3, 198), (3, 200), (3, 202), (3, 204), (3, 206), (3, 208), (3, 210), (3, 212), (3, 214), (3, 216), (3, 218), (3, 220), (3, 222), (3, 224), (3, 226), (3, 228), (3, 230)]]
set_option maxRecDepth 100000 in
theorem zlay_0 : (List.range 9).map (fun k => some (u_lay RX0 TX0 k)) = (List.range 9).map (fun k => zat ((zlayp.getD 0 []).getD k (9, 9))) := rfl
theorem zcls_0 : ∀ w ∈ u_ws RX0 TX0 9, w ∈ zAW := by
  intro w hw
  obtain ⟨k, hk, rfl⟩ := List.mem_map.mp hw
  refine zAW_in (zmap zlay_0 k hk) ?_
  unfold u_lay
  split <;> rfl
set_option maxRecDepth 100000 in
theorem zlay_1 : (List.range 7).map (fun k => some (u_lay RX1 TX1 k)) = (List.range 7).map (fun k => zat ((zlayp.getD 1 []).getD k (9, 9))) := rfl
theorem zcls_1 : ∀ w ∈ u_ws RX1 TX1 7, w ∈ zAW := by
  intro w hw
  obtain ⟨k, hk, rfl⟩ := List.mem_map.mp hw
  refine zAW_in (zmap zlay_1 k hk) ?_
  unfold u_lay
  split <;> rfl
set_option maxRecDepth 100000 in
theorem zlay_2 : (List.range 4).map (fun k => some (u_lay RX3 TX3 k)) = (List.range 4).map (fun k => zat ((zlayp.getD 2 []).getD k (9, 9))) := rfl
theorem zcls_2 : ∀ w ∈ u_ws RX3 TX3 4, w ∈ zAW := by
  intro w hw
  obtain ⟨k, hk, rfl⟩ := List.mem_map.mp hw
  refine zAW_in (zmap zlay_2 k hk) ?_
  unfold u_lay
  split <;> rfl
set_option maxRecDepth 100000 in
theorem zlay_3 : (List.range 6).map (fun k => some (u_lay RX4 TX4 k)) = (List.range 6).map (fun k => zat ((zlayp.getD 3 []).getD k (9, 9))) := rfl
theorem zcls_3 : ∀ w ∈ u_ws RX4 TX4 6, w ∈ zAW := by
  intro w hw
  obtain ⟨k, hk, rfl⟩ := List.mem_map.mp hw
  refine zAW_in (zmap zlay_3 k hk) ?_
  unfold u_lay
  split <;> rfl
set_option maxRecDepth 100000 in
theorem zlay_4 : (List.range 6).map (fun k => some (u_lay RX5 TX5 k)) = (List.range 6).map (fun k => zat ((zlayp.getD 4 []).getD k (9, 9))) := rfl
theorem zcls_4 : ∀ w ∈ u_ws RX5 TX5 6, w ∈ zAW := by
  intro w hw
  obtain ⟨k, hk, rfl⟩ := List.mem_map.mp hw
  refine zAW_in (zmap zlay_4 k hk) ?_
  unfold u_lay
  split <;> rfl
set_option maxRecDepth 100000 in
theorem zlay_5 : (List.range 27).map (fun k => some (u_lay RX6 TX6 k)) = (List.range 27).map (fun k => zat ((zlayp.getD 5 []).getD k (9, 9))) := rfl
theorem zcls_5 : ∀ w ∈ u_ws RX6 TX6 27, w ∈ zAW := by
  intro w hw
  obtain ⟨k, hk, rfl⟩ := List.mem_map.mp hw
  refine zAW_in (zmap zlay_5 k hk) ?_
  unfold u_lay
  split <;> rfl
