/-- the pure meanings: what a method answers and does, by its own lines; loops by fuel -/
def aFill (n : Nat) (v : Int32) (f : Nat → Int32) : Nat → Int32 := fun j => if j < n then v else f j
def aCopy (n : Nat) (f : Nat → Int32) : Nat → Int32 := fun j => if j < n then f j else 0
def aCopyL (n : Nat) (f : Nat → Int64) : Nat → Int64 := fun j => if j < n then f j else 0
def PB_unit (pb_textLength : Int32) (aTX : Nat → Int32) (v1 : Int32) (post : Int32 → Int32 → (Nat → Int32) → Prop) : Prop :=
  if v1 < 0 then
  (post (0 : Int32) pb_textLength aTX)
  else
  (if (255 : Int32) < v1 then
  (post (0 : Int32) pb_textLength aTX)
  else
  (if pb_textLength < (160 : Int32) then
  (vp_in pb_textLength 160 ∧
  ∀ aTX_1 : Nat → Int32, aTX_1 = (upd aTX pb_textLength.toNatClampNeg v1) →
  ∀ pb_textLength_2 : Int32, pb_textLength_2 = (pb_textLength + (1 : Int32)) →
  post (1 : Int32) pb_textLength_2 aTX_1)
  else
  (post (0 : Int32) pb_textLength aTX)))
def PB_takeText (pb_textLength : Int32) (post : Int32 → Int32 → Prop) : Prop :=
  post pb_textLength (0 : Int32)
def PI_clear (pi_width : Int32) (pi_height : Int32) (pi_walls : Int64) (pi_goals : Int64) (pi_boxes : Int64) (pi_person : Int64) (pi_x : Int32) (pi_endedRows : Int32) (post : Int32 → Int32 → Int64 → Int64 → Int64 → Int64 → Int32 → Int32 → Prop) : Prop :=
  post (0 : Int32) (0 : Int32) (0 : Int64) (0 : Int64) (0 : Int64) (0 : Int64) (0 : Int32) (0 : Int32)
def PB_cellAt (v0 : Int32) (v1 : Int32) (post : Int64 → Prop) : Prop :=
  post ((1 : Int64) <<< ((((8 : Int32) * v1) + v0).toInt64 &&& 63))
def JL_bitCount (v0 : Int64) (post : Int32 → Prop) : Prop :=
  ∀ v0_1 : Int64, v0_1 = (v0 - ((v0.toUInt64 >>> ((1 : Int32).toInt64.toUInt64 &&& Int64.toUInt64 63)).toInt64 &&& (6148914691236517205 : Int64))) →
  ∀ v0_2 : Int64, v0_2 = ((v0_1 &&& (3689348814741910323 : Int64)) + ((v0_1.toUInt64 >>> ((2 : Int32).toInt64.toUInt64 &&& Int64.toUInt64 63)).toInt64 &&& (3689348814741910323 : Int64))) →
  ∀ v0_3 : Int64, v0_3 = ((v0_2 + (v0_2.toUInt64 >>> ((4 : Int32).toInt64.toUInt64 &&& Int64.toUInt64 63)).toInt64) &&& (1085102592571150095 : Int64)) →
  ∀ v0_4 : Int64, v0_4 = (v0_3 + (v0_3.toUInt64 >>> ((8 : Int32).toInt64.toUInt64 &&& Int64.toUInt64 63)).toInt64) →
  ∀ v0_5 : Int64, v0_5 = (v0_4 + (v0_4.toUInt64 >>> ((16 : Int32).toInt64.toUInt64 &&& Int64.toUInt64 63)).toInt64) →
  ∀ v0_6 : Int64, v0_6 = (v0_5 + (v0_5.toUInt64 >>> ((32 : Int32).toInt64.toUInt64 &&& Int64.toUInt64 63)).toInt64) →
  post (v0_6.toInt32 &&& (127 : Int32))
def PI_takesGoal (pi_goals : Int64) (v1 : Int64) (post : Int32 → Int64 → Prop) : Prop :=
  ∀ pi_goals_1 : Int64, pi_goals_1 = (pi_goals ||| v1) →
  JL_bitCount pi_goals_1 (fun r_2 =>
  if (12 : Int32) < r_2 then
  (post (0 : Int32) pi_goals_1)
  else
  (post (1 : Int32) pi_goals_1))
def PI_takesBox (pi_boxes : Int64) (v1 : Int64) (post : Int32 → Int64 → Prop) : Prop :=
  ∀ pi_boxes_1 : Int64, pi_boxes_1 = (pi_boxes ||| v1) →
  JL_bitCount pi_boxes_1 (fun r_2 =>
  if (12 : Int32) < r_2 then
  (post (0 : Int32) pi_boxes_1)
  else
  (post (1 : Int32) pi_boxes_1))
def PI_takesPerson_14 (post : Int32 → Int64 → Prop) (pi_person : Int64) (v1 : Int64) (t0 : Int32) : Prop :=
  ∀ pi_person_1 : Int64, pi_person_1 = (pi_person ||| v1) →
  (t0 = 0 ∨ t0 = 1) ∧
  post t0 pi_person_1
def PI_takesPerson (pi_person : Int64) (v1 : Int64) (post : Int32 → Int64 → Prop) : Prop :=
  if pi_person = (0 : Int64) then
  (PI_takesPerson_14 post pi_person v1 (1 : Int32))
  else
  (PI_takesPerson_14 post pi_person v1 (0 : Int32))
def PI_takesSign (pi_walls : Int64) (pi_goals : Int64) (pi_boxes : Int64) (pi_person : Int64) (v1 : Int32) (v2 : Int64) (post : Int32 → Int64 → Int64 → Int64 → Int64 → Prop) : Prop :=
  if v1 = (32 : Int32) then
  (post (1 : Int32) pi_walls pi_goals pi_boxes pi_person)
  else
  (if v1 = (35 : Int32) then
  (∀ pi_walls_1 : Int64, pi_walls_1 = (pi_walls ||| v2) →
  post (1 : Int32) pi_walls_1 pi_goals pi_boxes pi_person)
  else
  (if v1 = (36 : Int32) then
  (PI_takesBox pi_boxes v2 (fun r_2 pi_boxes_3 =>
  (r_2 = 0 ∨ r_2 = 1) ∧
  post r_2 pi_walls pi_goals pi_boxes_3 pi_person))
  else
  (if v1 = (42 : Int32) then
  (PI_takesGoal pi_goals v2 (fun r_4 pi_goals_5 =>
  if r_4 = 0 then
  (post (0 : Int32) pi_walls pi_goals_5 pi_boxes pi_person)
  else
  (PI_takesBox pi_boxes v2 (fun r_6 pi_boxes_7 =>
  if r_6 = 0 then
  (post (0 : Int32) pi_walls pi_goals_5 pi_boxes_7 pi_person)
  else
  (post (1 : Int32) pi_walls pi_goals_5 pi_boxes_7 pi_person)))))
  else
  (if v1 = (43 : Int32) then
  (PI_takesGoal pi_goals v2 (fun r_8 pi_goals_9 =>
  if r_8 = 0 then
  (post (0 : Int32) pi_walls pi_goals_9 pi_boxes pi_person)
  else
  (PI_takesPerson pi_person v2 (fun r_10 pi_person_11 =>
  if r_10 = 0 then
  (post (0 : Int32) pi_walls pi_goals_9 pi_boxes pi_person_11)
  else
  (post (1 : Int32) pi_walls pi_goals_9 pi_boxes pi_person_11)))))
  else
  (if v1 = (46 : Int32) then
  (PI_takesGoal pi_goals v2 (fun r_12 pi_goals_13 =>
  (r_12 = 0 ∨ r_12 = 1) ∧
  post r_12 pi_walls pi_goals_13 pi_boxes pi_person))
  else
  (if v1 = (64 : Int32) then
  (PI_takesPerson pi_person v2 (fun r_14 pi_person_15 =>
  (r_14 = 0 ∨ r_14 = 1) ∧
  post r_14 pi_walls pi_goals pi_boxes pi_person_15))
  else
  (if v1 = (95 : Int32) then
  (post (1 : Int32) pi_walls pi_goals pi_boxes pi_person)
  else
  (post (0 : Int32) pi_walls pi_goals pi_boxes pi_person))))))))
def PI_takes_33 (post : Int32 → Int32 → Int32 → Int64 → Int64 → Int64 → Int64 → Int32 → Int32 → Prop) (pi_width : Int32) (pi_height : Int32) (pi_walls : Int64) (pi_goals : Int64) (pi_boxes : Int64) (pi_person : Int64) (pi_x : Int32) (pi_endedRows : Int32) : Prop :=
  ∀ pi_endedRows_1 : Int32, pi_endedRows_1 = (pi_endedRows + (1 : Int32)) →
  post (1 : Int32) pi_width pi_height pi_walls pi_goals pi_boxes pi_person (0 : Int32) pi_endedRows_1
def PI_takes (pi_width : Int32) (pi_height : Int32) (pi_walls : Int64) (pi_goals : Int64) (pi_boxes : Int64) (pi_person : Int64) (pi_x : Int32) (pi_endedRows : Int32) (v1 : Int32) (post : Int32 → Int32 → Int32 → Int64 → Int64 → Int64 → Int64 → Int32 → Int32 → Prop) : Prop :=
  if pi_endedRows < (8 : Int32) then
  (∀ pi_height_1 : Int32, pi_height_1 = (pi_endedRows + (1 : Int32)) →
  if v1 = (10 : Int32) then
  (PI_takes_33 post pi_width pi_height_1 pi_walls pi_goals pi_boxes pi_person pi_x pi_endedRows)
  else
  (if v1 = (124 : Int32) then
  (PI_takes_33 post pi_width pi_height_1 pi_walls pi_goals pi_boxes pi_person pi_x pi_endedRows)
  else
  (if (8 : Int32) ≤ pi_x then
  (post (0 : Int32) pi_width pi_height_1 pi_walls pi_goals pi_boxes pi_person pi_x pi_endedRows)
  else
  (PB_cellAt pi_x pi_endedRows (fun r_2 =>
  PI_takesSign pi_walls pi_goals pi_boxes pi_person v1 r_2 (fun r_3 pi_walls_4 pi_goals_5 pi_boxes_6 pi_person_7 =>
  if r_3 = 0 then
  (post (0 : Int32) pi_width pi_height_1 pi_walls_4 pi_goals_5 pi_boxes_6 pi_person_7 pi_x pi_endedRows)
  else
  (∀ pi_x_8 : Int32, pi_x_8 = (pi_x + (1 : Int32)) →
  ∀ pi_width_9 : Int32, pi_width_9 = (if pi_width < pi_x_8 then pi_x_8 else pi_width) →
  post (1 : Int32) pi_width_9 pi_height_1 pi_walls_4 pi_goals_5 pi_boxes_6 pi_person_7 pi_x_8 pi_endedRows)))))))
  else
  (post (0 : Int32) pi_width pi_height pi_walls pi_goals pi_boxes pi_person pi_x pi_endedRows)
def PI_isBoard (pi_goals : Int64) (pi_boxes : Int64) (pi_person : Int64) (post : Int32 → Prop) : Prop :=
  if pi_person = (0 : Int64) then
  (post (0 : Int32))
  else
  (JL_bitCount pi_boxes (fun r_1 =>
  JL_bitCount pi_goals (fun r_2 =>
  if r_1 < r_2 then
  (post (0 : Int32))
  else
  (post (1 : Int32)))))
def BO_rectangle_14 (k5 : Int32 → Int32 → Int64 → Int32 → Prop) (post : Int64 → Prop) : Nat → Int32 → Int32 → Int64 → Int32 → Int32 → Prop
  | 0, _, _, _, _, _ => False
  | n + 1, v0, v1, v2, v4, v5 =>
  if v0 ≤ v5 then
  (k5 v0 v1 v2 (v4 + (1 : Int32)))
  else
  (PB_cellAt v5 v4 (fun r_1 =>
  ∀ v2_2 : Int64, v2_2 = (v2 ||| r_1) →
  BO_rectangle_14 k5 post n v0 v1 v2_2 v4 (v5 + (1 : Int32))))
def BO_rectangle_5 (post : Int64 → Prop) : Nat → Int32 → Int32 → Int64 → Int32 → Prop
  | 0, _, _, _, _ => False
  | n + 1, v0, v1, v2, v4 =>
  if v1 ≤ v4 then
  (post v2)
  else
  ((∃ n', BO_rectangle_14 (fun v0' v1' v2' v4' => BO_rectangle_5 post n v0' v1' v2' v4') post n' v0 v1 v2 v4 (0 : Int32)))
def BO_rectangle (v0 : Int32) (v1 : Int32) (post : Int64 → Prop) : Prop :=
  (∃ n', BO_rectangle_5 post n' v0 v1 (0 : Int64) (0 : Int32))
def PB_against (v0 : Int32) (post : Int32 → Prop) : Prop :=
  post (v0 ^^^ (2 : Int32))
def PB_shifted (v0 : Int64) (v2 : Int32) (post : Int64 → Prop) : Prop :=
  if v2 = (0 : Int32) then
  (post ((v0 &&& (9187201950435737471 : Int64)) <<< ((1 : Int32).toInt64 &&& 63)))
  else
  (if v2 = (1 : Int32) then
  (post (v0 <<< ((8 : Int32).toInt64 &&& 63)))
  else
  (if v2 = (2 : Int32) then
  (post ((v0 &&& (-72340172838076674 : Int64)).toUInt64 >>> ((1 : Int32).toInt64.toUInt64 &&& Int64.toUInt64 63)).toInt64)
  else
  (post (v0.toUInt64 >>> ((8 : Int32).toInt64.toUInt64 &&& Int64.toUInt64 63)).toInt64)))
def BO_liveCells_19 (bo_floor : Int64) (bo_goals : Int64) (k7 : Int64 → Int32 → Prop) (post : Int64 → Prop) : Nat → Int64 → Int32 → Int64 → Int32 → Prop
  | 0, _, _, _, _ => False
  | n + 1, v1, v3, v4, v6 =>
  if (4 : Int32) ≤ v6 then
  (if v4 = v1 then
  (post v1)
  else
  (k7 v4 (v3 + (1 : Int32))))
  else
  (PB_against v6 (fun r_1 =>
  PB_shifted v4 r_1 (fun r_2 =>
  PB_shifted bo_floor v6 (fun r_3 =>
  ∀ v4_4 : Int64, v4_4 = (v4 ||| ((bo_floor &&& r_2) &&& r_3)) →
  BO_liveCells_19 bo_floor bo_goals k7 post n v1 v3 v4_4 (v6 + (1 : Int32))))))
def BO_liveCells_7 (bo_floor : Int64) (bo_goals : Int64) (post : Int64 → Prop) : Nat → Int64 → Int32 → Prop
  | 0, _, _ => False
  | n + 1, v1, v3 =>
  if (64 : Int32) ≤ v3 then
  (post v1)
  else
  ((∃ n', BO_liveCells_19 bo_floor bo_goals (fun v1' v3' => BO_liveCells_7 bo_floor bo_goals post n v1' v3') post n' v1 v3 v1 (0 : Int32)))
def BO_liveCells (bo_floor : Int64) (bo_goals : Int64) (post : Int64 → Prop) : Prop :=
  (∃ n', BO_liveCells_7 bo_floor bo_goals post n' bo_goals (0 : Int32))
def BO_setUp (pi_width : Int32) (pi_height : Int32) (pi_walls : Int64) (pi_goals : Int64) (pi_boxes : Int64) (pi_person : Int64) (bo_width : Int32) (bo_height : Int32) (bo_floor : Int64) (bo_goals : Int64) (bo_live : Int64) (bo_boxes : Int64) (bo_person : Int64) (bo_liveBesideInRow : Int64) (bo_liveBesideInColumn : Int64) (post : Int32 → Int32 → Int64 → Int64 → Int64 → Int64 → Int64 → Int64 → Int64 → Prop) : Prop :=
  BO_rectangle pi_width pi_height (fun r_1 =>
  ∀ bo_floor_2 : Int64, bo_floor_2 = (r_1 &&& (pi_walls ^^^ (-1 : Int64))) →
  BO_liveCells bo_floor_2 pi_goals (fun r_3 =>
  PB_shifted r_3 (0 : Int32) (fun r_4 =>
  PB_shifted r_3 (2 : Int32) (fun r_5 =>
  ∀ bo_liveBesideInRow_6 : Int64, bo_liveBesideInRow_6 = (r_4 ||| r_5) →
  PB_shifted r_3 (1 : Int32) (fun r_7 =>
  PB_shifted r_3 (3 : Int32) (fun r_8 =>
  ∀ bo_liveBesideInColumn_9 : Int64, bo_liveBesideInColumn_9 = (r_7 ||| r_8) →
  post pi_width pi_height bo_floor_2 pi_goals r_3 pi_boxes pi_person bo_liveBesideInRow_6 bo_liveBesideInColumn_9))))))
def LO_clear (lo_kept : Int32) (lo_moves : Int32) (lo_pushed : Int32) (lo_end : Int32) (post : Int32 → Int32 → Int32 → Int32 → Prop) : Prop :=
  post (0 : Int32) (0 : Int32) (0 : Int32) (0 : Int32)
def PB_read_14 (aTX : Nat → Int32) (post : Int32 → Int32 → Int32 → Int32 → Int64 → Int64 → Int64 → Int64 → Int32 → Int32 → Int32 → Int32 → Int64 → Int64 → Int64 → Int64 → Int64 → Int64 → Int64 → Int32 → Int32 → Int32 → Int32 → Prop) : Nat → Int32 → Int32 → Int32 → Int64 → Int64 → Int64 → Int64 → Int32 → Int32 → Int32 → Int32 → Int64 → Int64 → Int64 → Int64 → Int64 → Int64 → Int64 → Int32 → Int32 → Int32 → Int32 → Int32 → Int32 → Prop
  | 0, _, _, _, _, _, _, _, _, _, _, _, _, _, _, _, _, _, _, _, _, _, _, _, _ => False
  | n + 1, pb_textLength, pi_width, pi_height, pi_walls, pi_goals, pi_boxes, pi_person, pi_x, pi_endedRows, bo_width, bo_height, bo_floor, bo_goals, bo_live, bo_boxes, bo_person, bo_liveBesideInRow, bo_liveBesideInColumn, lo_kept, lo_moves, lo_pushed, lo_end, v1, v2 =>
  if v1 ≤ v2 then
  (PI_isBoard pi_goals pi_boxes pi_person (fun r_1 =>
  if r_1 = 0 then
  (post (-200 : Int32) pb_textLength pi_width pi_height pi_walls pi_goals pi_boxes pi_person pi_x pi_endedRows bo_width bo_height bo_floor bo_goals bo_live bo_boxes bo_person bo_liveBesideInRow bo_liveBesideInColumn lo_kept lo_moves lo_pushed lo_end)
  else
  (BO_setUp pi_width pi_height pi_walls pi_goals pi_boxes pi_person bo_width bo_height bo_floor bo_goals bo_live bo_boxes bo_person bo_liveBesideInRow bo_liveBesideInColumn (fun bo_width_2 bo_height_3 bo_floor_4 bo_goals_5 bo_live_6 bo_boxes_7 bo_person_8 bo_liveBesideInRow_9 bo_liveBesideInColumn_10 =>
  LO_clear lo_kept lo_moves lo_pushed lo_end (fun lo_kept_11 lo_moves_12 lo_pushed_13 lo_end_14 =>
  JL_bitCount bo_boxes_7 (fun r_15 =>
  post r_15 pb_textLength pi_width pi_height pi_walls pi_goals pi_boxes pi_person pi_x pi_endedRows bo_width_2 bo_height_3 bo_floor_4 bo_goals_5 bo_live_6 bo_boxes_7 bo_person_8 bo_liveBesideInRow_9 bo_liveBesideInColumn_10 lo_kept_11 lo_moves_12 lo_pushed_13 lo_end_14))))))
  else
  (vp_in v2 160 ∧
  PI_takes pi_width pi_height pi_walls pi_goals pi_boxes pi_person pi_x pi_endedRows (aTX v2.toNatClampNeg) (fun r_16 pi_width_17 pi_height_18 pi_walls_19 pi_goals_20 pi_boxes_21 pi_person_22 pi_x_23 pi_endedRows_24 =>
  if r_16 = 0 then
  (post ((-1 : Int32) - v2) pb_textLength pi_width_17 pi_height_18 pi_walls_19 pi_goals_20 pi_boxes_21 pi_person_22 pi_x_23 pi_endedRows_24 bo_width bo_height bo_floor bo_goals bo_live bo_boxes bo_person bo_liveBesideInRow bo_liveBesideInColumn lo_kept lo_moves lo_pushed lo_end)
  else
  (PB_read_14 aTX post n pb_textLength pi_width_17 pi_height_18 pi_walls_19 pi_goals_20 pi_boxes_21 pi_person_22 pi_x_23 pi_endedRows_24 bo_width bo_height bo_floor bo_goals bo_live bo_boxes bo_person bo_liveBesideInRow bo_liveBesideInColumn lo_kept lo_moves lo_pushed lo_end v1 (v2 + (1 : Int32)))))
def PB_read (aTX : Nat → Int32) (pb_textLength : Int32) (pi_width : Int32) (pi_height : Int32) (pi_walls : Int64) (pi_goals : Int64) (pi_boxes : Int64) (pi_person : Int64) (pi_x : Int32) (pi_endedRows : Int32) (bo_width : Int32) (bo_height : Int32) (bo_floor : Int64) (bo_goals : Int64) (bo_live : Int64) (bo_boxes : Int64) (bo_person : Int64) (bo_liveBesideInRow : Int64) (bo_liveBesideInColumn : Int64) (lo_kept : Int32) (lo_moves : Int32) (lo_pushed : Int32) (lo_end : Int32) (post : Int32 → Int32 → Int32 → Int32 → Int64 → Int64 → Int64 → Int64 → Int32 → Int32 → Int32 → Int32 → Int64 → Int64 → Int64 → Int64 → Int64 → Int64 → Int64 → Int32 → Int32 → Int32 → Int32 → Prop) : Prop :=
  PB_takeText pb_textLength (fun r_1 pb_textLength_2 =>
  PI_clear pi_width pi_height pi_walls pi_goals pi_boxes pi_person pi_x pi_endedRows (fun pi_width_3 pi_height_4 pi_walls_5 pi_goals_6 pi_boxes_7 pi_person_8 pi_x_9 pi_endedRows_10 =>
  (∃ n', PB_read_14 aTX post n' pb_textLength_2 pi_width_3 pi_height_4 pi_walls_5 pi_goals_6 pi_boxes_7 pi_person_8 pi_x_9 pi_endedRows_10 bo_width bo_height bo_floor bo_goals bo_live bo_boxes bo_person bo_liveBesideInRow bo_liveBesideInColumn lo_kept lo_moves lo_pushed lo_end r_1 (0 : Int32))))
def PB_wayOfLetter (v0 : Int32) (post : Int32 → Prop) : Prop :=
  if v0 = (68 : Int32) then
  (post (1 : Int32))
  else
  (if v0 = (76 : Int32) then
  (post (2 : Int32))
  else
  (if v0 = (82 : Int32) then
  (post (0 : Int32))
  else
  (if v0 = (85 : Int32) then
  (post (3 : Int32))
  else
  (if v0 = (100 : Int32) then
  (post (1 : Int32))
  else
  (if v0 = (108 : Int32) then
  (post (2 : Int32))
  else
  (if v0 = (114 : Int32) then
  (post (0 : Int32))
  else
  (if v0 = (117 : Int32) then
  (post (3 : Int32))
  else
  (post (-1 : Int32)))))))))
def BO_isThere (bo_person : Int64) (post : Int32 → Prop) : Prop :=
  if bo_person = (0 : Int64) then
  (post (0 : Int32))
  else
  (post (1 : Int32))
def BO_go (bo_floor : Int64) (bo_boxes : Int64) (bo_person : Int64) (v1 : Int32) (post : Int32 → Int64 → Int64 → Prop) : Prop :=
  PB_shifted bo_person v1 (fun r_1 =>
  ∀ v2_2 : Int64, v2_2 = (r_1 &&& bo_floor) →
  if v2_2 = (0 : Int64) then
  (post (0 : Int32) bo_boxes bo_person)
  else
  (if (v2_2 &&& bo_boxes) = (0 : Int64) then
  (post (1 : Int32) bo_boxes v2_2)
  else
  (PB_shifted v2_2 v1 (fun r_3 =>
  ∀ v4_4 : Int64, v4_4 = ((r_3 &&& bo_floor) &&& (bo_boxes ^^^ (-1 : Int64))) →
  if v4_4 = (0 : Int64) then
  (post (0 : Int32) bo_boxes bo_person)
  else
  (∀ bo_boxes_5 : Int64, bo_boxes_5 = (bo_boxes ^^^ (v2_2 ||| v4_4)) →
  post (2 : Int32) bo_boxes_5 v2_2)))))
def LO_add_19 (post : Int32 → Int32 → Int32 → Int32 → (Nat → Int32) → Prop) (lo_kept : Int32) (lo_moves : Int32) (lo_pushed : Int32) (lo_end : Int32) (aMA : (Nat → Int32)) (v2 : Int32) (t1 : Int32) (t2 : Int32) : Prop :=
  vp_in t1 500 ∧
  ∀ aMA_1 : Nat → Int32, aMA_1 = (upd aMA t1.toNatClampNeg t2) →
  ∀ lo_end_2 : Int32, lo_end_2 = ((lo_end + (1 : Int32)) - (lo_end + (1 : Int32)) / (500 : Int32) * (500 : Int32)) →
  ∀ lo_kept_3 : Int32, lo_kept_3 = (if (500 : Int32) < (lo_kept + (1 : Int32)) then (500 : Int32) else (lo_kept + (1 : Int32))) →
  ∀ lo_moves_4 : Int32, lo_moves_4 = (lo_moves + (1 : Int32)) →
  if v2 = 0 then
  (∀ lo_pushed_5 : Int32, lo_pushed_5 = (lo_pushed + (0 : Int32)) →
  post lo_kept_3 lo_moves_4 lo_pushed_5 lo_end_2 aMA_1)
  else
  (∀ lo_pushed_6 : Int32, lo_pushed_6 = (lo_pushed + (1 : Int32)) →
  post lo_kept_3 lo_moves_4 lo_pushed_6 lo_end_2 aMA_1)
def LO_add (lo_kept : Int32) (lo_moves : Int32) (lo_pushed : Int32) (lo_end : Int32) (aMA : Nat → Int32) (v1 : Int32) (v2 : Int32) (post : Int32 → Int32 → Int32 → Int32 → (Nat → Int32) → Prop) : Prop :=
  if v2 = 0 then
  (LO_add_19 post lo_kept lo_moves lo_pushed lo_end aMA v2 lo_end v1)
  else
  (LO_add_19 post lo_kept lo_moves lo_pushed lo_end aMA v2 lo_end (v1 + (4 : Int32)))
def PB_goOnce_42 (bo_floor : Int64) (post : Int32 → Int64 → Int64 → Int32 → Int32 → Int32 → Int32 → (Nat → Int32) → Prop) (bo_boxes : Int64) (bo_person : Int64) (lo_kept : Int32) (lo_moves : Int32) (lo_pushed : Int32) (lo_end : Int32) (aMA : (Nat → Int32)) (v2 : Int32) (t1 : Int32) (t2 : Int32) : Prop :=
  LO_add lo_kept lo_moves lo_pushed lo_end aMA t1 t2 (fun lo_kept_1 lo_moves_2 lo_pushed_3 lo_end_4 aMA_5 =>
  post v2 bo_boxes bo_person lo_kept_1 lo_moves_2 lo_pushed_3 lo_end_4 aMA_5)
def PB_goOnce_22 (bo_floor : Int64) (post : Int32 → Int64 → Int64 → Int32 → Int32 → Int32 → Int32 → (Nat → Int32) → Prop) (bo_boxes : Int64) (bo_person : Int64) (lo_kept : Int32) (lo_moves : Int32) (lo_pushed : Int32) (lo_end : Int32) (aMA : (Nat → Int32)) (v1 : Int32) (t0 : Int32) : Prop :=
  if t0 = 0 then
  (post t0 bo_boxes bo_person lo_kept lo_moves lo_pushed lo_end aMA)
  else
  (if t0 = (2 : Int32) then
  (PB_goOnce_42 bo_floor post bo_boxes bo_person lo_kept lo_moves lo_pushed lo_end aMA t0 v1 (1 : Int32))
  else
  (PB_goOnce_42 bo_floor post bo_boxes bo_person lo_kept lo_moves lo_pushed lo_end aMA t0 v1 (0 : Int32)))
def PB_goOnce (bo_floor : Int64) (bo_boxes : Int64) (bo_person : Int64) (lo_kept : Int32) (lo_moves : Int32) (lo_pushed : Int32) (lo_end : Int32) (aMA : Nat → Int32) (v1 : Int32) (post : Int32 → Int64 → Int64 → Int32 → Int32 → Int32 → Int32 → (Nat → Int32) → Prop) : Prop :=
  BO_isThere bo_person (fun r_1 =>
  if r_1 = 0 then
  (PB_goOnce_22 bo_floor post bo_boxes bo_person lo_kept lo_moves lo_pushed lo_end aMA v1 (0 : Int32))
  else
  (BO_go bo_floor bo_boxes bo_person v1 (fun r_2 bo_boxes_3 bo_person_4 =>
  PB_goOnce_22 bo_floor post bo_boxes_3 bo_person_4 lo_kept lo_moves lo_pushed lo_end aMA v1 r_2)))
def PB_goOften_2 (bo_floor : Int64) (post : Int32 → Int64 → Int64 → Int32 → Int32 → Int32 → Int32 → (Nat → Int32) → Prop) : Nat → Int64 → Int64 → Int32 → Int32 → Int32 → Int32 → (Nat → Int32) → Int32 → Int32 → Int32 → Prop
  | 0, _, _, _, _, _, _, _, _, _, _ => False
  | n + 1, bo_boxes, bo_person, lo_kept, lo_moves, lo_pushed, lo_end, aMA, v1, v2, v3 =>
  if v2 ≤ v3 then
  (post v2 bo_boxes bo_person lo_kept lo_moves lo_pushed lo_end aMA)
  else
  (if v1 < 0 then
  (post v3 bo_boxes bo_person lo_kept lo_moves lo_pushed lo_end aMA)
  else
  (PB_goOnce bo_floor bo_boxes bo_person lo_kept lo_moves lo_pushed lo_end aMA v1 (fun r_1 bo_boxes_2 bo_person_3 lo_kept_4 lo_moves_5 lo_pushed_6 lo_end_7 aMA_8 =>
  if r_1 = 0 then
  (post v3 bo_boxes_2 bo_person_3 lo_kept_4 lo_moves_5 lo_pushed_6 lo_end_7 aMA_8)
  else
  (PB_goOften_2 bo_floor post n bo_boxes_2 bo_person_3 lo_kept_4 lo_moves_5 lo_pushed_6 lo_end_7 aMA_8 v1 v2 (v3 + (1 : Int32))))))
def PB_goOften (bo_floor : Int64) (bo_boxes : Int64) (bo_person : Int64) (lo_kept : Int32) (lo_moves : Int32) (lo_pushed : Int32) (lo_end : Int32) (aMA : Nat → Int32) (v1 : Int32) (v2 : Int32) (post : Int32 → Int64 → Int64 → Int32 → Int32 → Int32 → Int32 → (Nat → Int32) → Prop) : Prop :=
  (∃ n', PB_goOften_2 bo_floor post n' bo_boxes bo_person lo_kept lo_moves lo_pushed lo_end aMA v1 v2 (0 : Int32))
def PB_row_54 (aTX : Nat → Int32) (bo_floor : Int64) (k12 : Int32 → Int64 → Int64 → Int32 → Int32 → Int32 → Int32 → (Nat → Int32) → Int32 → Int32 → Int32 → Int32 → Prop) (post : Int32 → Int32 → Int64 → Int64 → Int32 → Int32 → Int32 → Int32 → (Nat → Int32) → Prop) (pb_textLength : Int32) (bo_boxes : Int64) (bo_person : Int64) (lo_kept : Int32) (lo_moves : Int32) (lo_pushed : Int32) (lo_end : Int32) (aMA : (Nat → Int32)) (v1 : Int32) (v2 : Int32) (v3 : Int32) (v4 : Int32) (v5 : Int32) : Prop :=
  ∀ v6_1 : Int32, v6_1 = (if v3 < (1 : Int32) then (1 : Int32) else v3) →
  PB_wayOfLetter v5 (fun r_2 =>
  PB_goOften bo_floor bo_boxes bo_person lo_kept lo_moves lo_pushed lo_end aMA r_2 v6_1 (fun r_3 bo_boxes_4 bo_person_5 lo_kept_6 lo_moves_7 lo_pushed_8 lo_end_9 aMA_10 =>
  if v6_1 ≤ r_3 then
  (∀ v2_11 : Int32, v2_11 = (v2 + r_3) →
  k12 pb_textLength bo_boxes_4 bo_person_5 lo_kept_6 lo_moves_7 lo_pushed_8 lo_end_9 aMA_10 v1 v2_11 (0 : Int32) (v4 + (1 : Int32)))
  else
  (post ((-1 : Int32) - v4) pb_textLength bo_boxes_4 bo_person_5 lo_kept_6 lo_moves_7 lo_pushed_8 lo_end_9 aMA_10)))
def PB_row_12 (aTX : Nat → Int32) (bo_floor : Int64) (post : Int32 → Int32 → Int64 → Int64 → Int32 → Int32 → Int32 → Int32 → (Nat → Int32) → Prop) : Nat → Int32 → Int64 → Int64 → Int32 → Int32 → Int32 → Int32 → (Nat → Int32) → Int32 → Int32 → Int32 → Int32 → Prop
  | 0, _, _, _, _, _, _, _, _, _, _, _, _ => False
  | n + 1, pb_textLength, bo_boxes, bo_person, lo_kept, lo_moves, lo_pushed, lo_end, aMA, v1, v2, v3, v4 =>
  if v1 ≤ v4 then
  (if v3 = 0 then
  (post v2 pb_textLength bo_boxes bo_person lo_kept lo_moves lo_pushed lo_end aMA)
  else
  (post ((-1 : Int32) - v1) pb_textLength bo_boxes bo_person lo_kept lo_moves lo_pushed lo_end aMA))
  else
  (vp_in v4 160 ∧
  ∀ v5_1 : Int32, v5_1 = (aTX v4.toNatClampNeg) →
  if v3 = 0 then
  (if v5_1 < (50 : Int32) then
  (PB_row_54 aTX bo_floor (fun pb_textLength' bo_boxes' bo_person' lo_kept' lo_moves' lo_pushed' lo_end' aMA' v1' v2' v3' v4' => PB_row_12 aTX bo_floor post n pb_textLength' bo_boxes' bo_person' lo_kept' lo_moves' lo_pushed' lo_end' aMA' v1' v2' v3' v4') post pb_textLength bo_boxes bo_person lo_kept lo_moves lo_pushed lo_end aMA v1 v2 v3 v4 v5_1)
  else
  (if (57 : Int32) < v5_1 then
  (PB_row_54 aTX bo_floor (fun pb_textLength' bo_boxes' bo_person' lo_kept' lo_moves' lo_pushed' lo_end' aMA' v1' v2' v3' v4' => PB_row_12 aTX bo_floor post n pb_textLength' bo_boxes' bo_person' lo_kept' lo_moves' lo_pushed' lo_end' aMA' v1' v2' v3' v4') post pb_textLength bo_boxes bo_person lo_kept lo_moves lo_pushed lo_end aMA v1 v2 v3 v4 v5_1)
  else
  (∀ v3_2 : Int32, v3_2 = (v5_1 - (48 : Int32)) →
  PB_row_12 aTX bo_floor post n pb_textLength bo_boxes bo_person lo_kept lo_moves lo_pushed lo_end aMA v1 v2 v3_2 (v4 + (1 : Int32)))))
  else
  (PB_row_54 aTX bo_floor (fun pb_textLength' bo_boxes' bo_person' lo_kept' lo_moves' lo_pushed' lo_end' aMA' v1' v2' v3' v4' => PB_row_12 aTX bo_floor post n pb_textLength' bo_boxes' bo_person' lo_kept' lo_moves' lo_pushed' lo_end' aMA' v1' v2' v3' v4') post pb_textLength bo_boxes bo_person lo_kept lo_moves lo_pushed lo_end aMA v1 v2 v3 v4 v5_1))
def PB_row (aTX : Nat → Int32) (bo_floor : Int64) (pb_textLength : Int32) (bo_boxes : Int64) (bo_person : Int64) (lo_kept : Int32) (lo_moves : Int32) (lo_pushed : Int32) (lo_end : Int32) (aMA : Nat → Int32) (post : Int32 → Int32 → Int64 → Int64 → Int32 → Int32 → Int32 → Int32 → (Nat → Int32) → Prop) : Prop :=
  PB_takeText pb_textLength (fun r_1 pb_textLength_2 =>
  (∃ n', PB_row_12 aTX bo_floor post n' pb_textLength_2 bo_boxes bo_person lo_kept lo_moves lo_pushed lo_end aMA r_1 (0 : Int32) (0 : Int32) (0 : Int32)))
def PB_move_29 (bo_floor : Int64) (post : Int32 → Int64 → Int64 → Int32 → Int32 → Int32 → Int32 → (Nat → Int32) → Prop) (px : Int32 → Int64 → Int64 → Int32 → Int32 → Int32 → Int32 → (Nat → Int32) → Prop) (bo_boxes : Int64) (bo_person : Int64) (lo_kept : Int32) (lo_moves : Int32) (lo_pushed : Int32) (lo_end : Int32) (aMA : (Nat → Int32)) : Prop :=
  px (1 : Int32) bo_boxes bo_person lo_kept lo_moves lo_pushed lo_end aMA
def PB_move (bo_floor : Int64) (bo_boxes : Int64) (bo_person : Int64) (lo_kept : Int32) (lo_moves : Int32) (lo_pushed : Int32) (lo_end : Int32) (aMA : Nat → Int32) (v1 : Int32) (post : Int32 → Int64 → Int64 → Int32 → Int32 → Int32 → Int32 → (Nat → Int32) → Prop) (px : Int32 → Int64 → Int64 → Int32 → Int32 → Int32 → Int32 → (Nat → Int32) → Prop) : Prop :=
  BO_isThere bo_person (fun r_1 =>
  if r_1 = 0 then
  (px (2 : Int32) bo_boxes bo_person lo_kept lo_moves lo_pushed lo_end aMA)
  else
  (if v1 < 0 then
  (PB_move_29 bo_floor post px bo_boxes bo_person lo_kept lo_moves lo_pushed lo_end aMA)
  else
  (if v1 < (4 : Int32) then
  (PB_goOnce bo_floor bo_boxes bo_person lo_kept lo_moves lo_pushed lo_end aMA v1 (fun r_2 bo_boxes_3 bo_person_4 lo_kept_5 lo_moves_6 lo_pushed_7 lo_end_8 aMA_9 =>
  post r_2 bo_boxes_3 bo_person_4 lo_kept_5 lo_moves_6 lo_pushed_7 lo_end_8 aMA_9))
  else
  (PB_move_29 bo_floor post px bo_boxes bo_person lo_kept lo_moves lo_pushed lo_end aMA))))
def LO_isPush (v0 : Int32) (post : Int32 → Prop) : Prop :=
  if v0 < (4 : Int32) then
  (post (0 : Int32))
  else
  (post (1 : Int32))
def LO_takeLast (aMA : Nat → Int32) (lo_kept : Int32) (lo_moves : Int32) (lo_pushed : Int32) (lo_end : Int32) (post : Int32 → Int32 → Int32 → Int32 → Int32 → Prop) : Prop :=
  ∀ lo_end_1 : Int32, lo_end_1 = (((lo_end + (500 : Int32)) - (1 : Int32)) - ((lo_end + (500 : Int32)) - (1 : Int32)) / (500 : Int32) * (500 : Int32)) →
  vp_in lo_end_1 500 ∧
  ∀ v1_2 : Int32, v1_2 = (aMA lo_end_1.toNatClampNeg) →
  ∀ lo_kept_3 : Int32, lo_kept_3 = (lo_kept - (1 : Int32)) →
  ∀ lo_moves_4 : Int32, lo_moves_4 = (lo_moves - (1 : Int32)) →
  LO_isPush v1_2 (fun r_5 =>
  if r_5 = 0 then
  (∀ lo_pushed_6 : Int32, lo_pushed_6 = (lo_pushed - (0 : Int32)) →
  post v1_2 lo_kept_3 lo_moves_4 lo_pushed_6 lo_end_1)
  else
  (∀ lo_pushed_7 : Int32, lo_pushed_7 = (lo_pushed - (1 : Int32)) →
  post v1_2 lo_kept_3 lo_moves_4 lo_pushed_7 lo_end_1))
def LO_wayOf (v0 : Int32) (post : Int32 → Prop) : Prop :=
  post (v0 &&& (3 : Int32))
def BO_goBack_26 (post : Int64 → Int64 → Prop) (bo_boxes : Int64) (bo_person : Int64) (v1 : Int32) : Prop :=
  PB_against v1 (fun r_1 =>
  PB_shifted bo_person r_1 (fun r_2 =>
  post bo_boxes r_2))
def BO_goBack (bo_boxes : Int64) (bo_person : Int64) (v1 : Int32) (v2 : Int32) (post : Int64 → Int64 → Prop) : Prop :=
  if v2 = 0 then
  (BO_goBack_26 post bo_boxes bo_person v1)
  else
  (PB_shifted bo_person v1 (fun r_1 =>
  ∀ bo_boxes_2 : Int64, bo_boxes_2 = (bo_boxes ^^^ (bo_person ||| r_1)) →
  BO_goBack_26 post bo_boxes_2 bo_person v1))
def PB_undo (aMA : Nat → Int32) (bo_boxes : Int64) (bo_person : Int64) (lo_kept : Int32) (lo_moves : Int32) (lo_pushed : Int32) (lo_end : Int32) (post : Int32 → Int64 → Int64 → Int32 → Int32 → Int32 → Int32 → Prop) : Prop :=
  if lo_kept = 0 then
  (post (0 : Int32) bo_boxes bo_person lo_kept lo_moves lo_pushed lo_end)
  else
  (LO_takeLast aMA lo_kept lo_moves lo_pushed lo_end (fun r_1 lo_kept_2 lo_moves_3 lo_pushed_4 lo_end_5 =>
  LO_isPush r_1 (fun r_6 =>
  LO_wayOf r_1 (fun r_7 =>
  BO_goBack bo_boxes bo_person r_7 r_6 (fun bo_boxes_8 bo_person_9 =>
  if r_6 = 0 then
  (post (1 : Int32) bo_boxes_8 bo_person_9 lo_kept_2 lo_moves_3 lo_pushed_4 lo_end_5)
  else
  (post (2 : Int32) bo_boxes_8 bo_person_9 lo_kept_2 lo_moves_3 lo_pushed_4 lo_end_5))))))
def PB_spotOf (v0 : Int64) (post : Int32 → Prop) : Prop :=
  JL_bitCount ((v0 &&& (-v0)) - (1 : Int64)) (fun r_1 =>
  post (r_1 &&& (63 : Int32)))
def BO_cellOf (bo_width : Int32) (v1 : Int64) (post : Int32 → Prop) : Prop :=
  PB_spotOf v1 (fun r_1 =>
  post ((bo_width * (r_1 / (8 : Int32))) + (r_1 - r_1 / (8 : Int32) * (8 : Int32))))
def BO_isDone (bo_goals : Int64) (v1 : Int64) (post : Int32 → Prop) : Prop :=
  if (bo_goals &&& (v1 ^^^ (-1 : Int64))) = (0 : Int64) then
  (post (1 : Int32))
  else
  (post (0 : Int32))
def PB_told (bo_width : Int32) (bo_height : Int32) (bo_goals : Int64) (bo_boxes : Int64) (bo_person : Int64) (lo_moves : Int32) (lo_pushed : Int32) (v1 : Int32) (post : Int32 → Prop) : Prop :=
  if v1 = (0 : Int32) then
  (post bo_width)
  else
  (if v1 = (1 : Int32) then
  (post bo_height)
  else
  (if v1 = (2 : Int32) then
  (JL_bitCount bo_boxes (fun r_1 =>
  post r_1))
  else
  (if v1 = (3 : Int32) then
  (JL_bitCount bo_goals (fun r_2 =>
  post r_2))
  else
  (if v1 = (4 : Int32) then
  (JL_bitCount (bo_boxes &&& bo_goals) (fun r_3 =>
  post r_3))
  else
  (if v1 = (5 : Int32) then
  (post lo_moves)
  else
  (if v1 = (6 : Int32) then
  (post lo_pushed)
  else
  (if v1 = (7 : Int32) then
  (BO_isThere bo_person (fun r_4 =>
  if r_4 = 0 then
  (post (-1 : Int32))
  else
  (BO_cellOf bo_width bo_person (fun r_5 =>
  post r_5))))
  else
  (if v1 = (8 : Int32) then
  (BO_isThere bo_person (fun r_6 =>
  if r_6 = 0 then
  (post (0 : Int32))
  else
  (BO_isDone bo_goals bo_boxes (fun r_7 =>
  if r_7 = 0 then
  (post (0 : Int32))
  else
  (post (1 : Int32))))))
  else
  (post (-1 : Int32))))))))))
def BO_signAt_16 (bo_floor : Int64) (bo_goals : Int64) (bo_boxes : Int64) (bo_person : Int64) (post : Int32 → Prop) (v1 : Int64) (t0 : Int32) : Prop :=
  if (v1 &&& bo_floor) = (0 : Int64) then
  (post (35 : Int32))
  else
  (if (v1 &&& bo_boxes) = (0 : Int64) then
  (if (v1 &&& bo_person) = (0 : Int64) then
  (if t0 = 0 then
  (post (32 : Int32))
  else
  (post (46 : Int32)))
  else
  (if t0 = 0 then
  (post (64 : Int32))
  else
  (post (43 : Int32))))
  else
  (if t0 = 0 then
  (post (36 : Int32))
  else
  (post (42 : Int32))))
def BO_signAt (bo_floor : Int64) (bo_goals : Int64) (bo_boxes : Int64) (bo_person : Int64) (v1 : Int64) (post : Int32 → Prop) : Prop :=
  if (v1 &&& bo_goals) = (0 : Int64) then
  (BO_signAt_16 bo_floor bo_goals bo_boxes bo_person post v1 (0 : Int32))
  else
  (BO_signAt_16 bo_floor bo_goals bo_boxes bo_person post v1 (1 : Int32))
def PB_picture (bo_width : Int32) (bo_height : Int32) (bo_floor : Int64) (bo_goals : Int64) (bo_boxes : Int64) (bo_person : Int64) (v1 : Int32) (post : Int32 → Prop) : Prop :=
  ∀ v2_1 : Int32, v2_1 = (bo_width + (1 : Int32)) →
  if v1 < 0 then
  (post (-1 : Int32))
  else
  (if v1 < (v2_1 * bo_height) then
  (¬ v2_1 = 0 ∧
  ∀ v3_2 : Int32, v3_2 = (v1 - v1 / v2_1 * v2_1) →
  if v3_2 = bo_width then
  (post (10 : Int32))
  else
  (¬ v2_1 = 0 ∧
  PB_cellAt v3_2 (v1 / v2_1) (fun r_3 =>
  BO_signAt bo_floor bo_goals bo_boxes bo_person r_3 (fun r_4 =>
  post r_4))))
  else
  (post (-1 : Int32)))
def LO_letterAt (lo_kept : Int32) (lo_end : Int32) (aMA : Nat → Int32) (v1 : Int32) (post : Int32 → Prop) : Prop :=
  vp_in ((((lo_end + (500 : Int32)) - lo_kept) + v1) - (((lo_end + (500 : Int32)) - lo_kept) + v1) / (500 : Int32) * (500 : Int32)) 500 ∧
  ∀ v2_1 : Int32, v2_1 = (aMA ((((lo_end + (500 : Int32)) - lo_kept) + v1) - (((lo_end + (500 : Int32)) - lo_kept) + v1) / (500 : Int32) * (500 : Int32)).toNatClampNeg) →
  ∀ z_2 : Int32, z_2 = (v2_1 &&& ((8 : Int32) - (1 : Int32))) →
  vp_in z_2 8 ∧
  post (jLet z_2.toNatClampNeg)
def PB_letter (lo_kept : Int32) (lo_end : Int32) (aMA : Nat → Int32) (v1 : Int32) (post : Int32 → Prop) : Prop :=
  if v1 < 0 then
  (post (-1 : Int32))
  else
  (if v1 < lo_kept then
  (LO_letterAt lo_kept lo_end aMA v1 (fun r_1 =>
  post r_1))
  else
  (post (-1 : Int32)))
def BO_reachOf_32 (bo_floor : Int64) (k18 : Int64 → Int64 → Int32 → Prop) (post : Int64 → Prop) : Nat → Int64 → Int64 → Int32 → Int64 → Int32 → Prop
  | 0, _, _, _, _, _ => False
  | n + 1, v5, v7, v9, v10, v12 =>
  if (4 : Int32) ≤ v12 then
  (if v10 = v7 then
  (post v7)
  else
  (k18 v5 v10 (v9 + (1 : Int32))))
  else
  (PB_shifted v10 v12 (fun r_1 =>
  ∀ v10_2 : Int64, v10_2 = (v10 ||| (r_1 &&& v5)) →
  BO_reachOf_32 bo_floor k18 post n v5 v7 v9 v10_2 (v12 + (1 : Int32))))
def BO_reachOf_18 (bo_floor : Int64) (post : Int64 → Prop) : Nat → Int64 → Int64 → Int32 → Prop
  | 0, _, _, _ => False
  | n + 1, v5, v7, v9 =>
  if (64 : Int32) ≤ v9 then
  (post v7)
  else
  ((∃ n', BO_reachOf_32 bo_floor (fun v5' v7' v9' => BO_reachOf_18 bo_floor post n v5' v7' v9') post n' v5 v7 v9 v7 (0 : Int32)))
def BO_reachOf (bo_floor : Int64) (v1 : Int64) (v3 : Int64) (post : Int64 → Prop) : Prop :=
  ∀ v5_1 : Int64, v5_1 = (bo_floor &&& (v3 ^^^ (-1 : Int64))) →
  (∃ n', BO_reachOf_18 bo_floor post n' v5_1 v1 (0 : Int32))
def PB_reach (bo_floor : Int64) (bo_boxes : Int64) (bo_person : Int64) (post : Int32 → Prop) : Prop :=
  BO_reachOf bo_floor bo_person bo_boxes (fun r_1 =>
  JL_bitCount r_1 (fun r_2 =>
  post r_2))
def PB_existing_30 (bo_width : Int32) (bo_height : Int32) (post : Int64 → Prop) (px : Int32 → Prop) : Prop :=
  px (1 : Int32)
def PB_existing (bo_width : Int32) (bo_height : Int32) (v1 : Int32) (v2 : Int32) (post : Int64 → Prop) (px : Int32 → Prop) : Prop :=
  if v1 < 0 then
  (PB_existing_30 bo_width bo_height post px )
  else
  (if bo_width ≤ v1 then
  (PB_existing_30 bo_width bo_height post px )
  else
  (if v2 < 0 then
  (PB_existing_30 bo_width bo_height post px )
  else
  (if v2 < bo_height then
  (PB_cellAt v1 v2 (fun r_1 =>
  post r_1))
  else
  (PB_existing_30 bo_width bo_height post px ))))
def BO_stepsTo_48 (bo_floor : Int64) (bo_boxes : Int64) (bo_person : Int64) (k23 : Int64 → Int64 → Int64 → Int32 → Prop) (post : Int32 → Prop) : Nat → Int64 → Int64 → Int64 → Int32 → Int64 → Int32 → Prop
  | 0, _, _, _, _, _, _ => False
  | n + 1, v1, v3, v5, v7, v8, v10 =>
  if (4 : Int32) ≤ v10 then
  (∀ v5_1 : Int64, v5_1 = (v5 ||| v8) →
  k23 v1 v3 v5_1 (v7 + (1 : Int32)))
  else
  (PB_shifted v5 v10 (fun r_2 =>
  ∀ v8_3 : Int64, v8_3 = (v8 ||| (r_2 &&& v3)) →
  BO_stepsTo_48 bo_floor bo_boxes bo_person k23 post n v1 v3 v5 v7 v8_3 (v10 + (1 : Int32))))
def BO_stepsTo_23 (bo_floor : Int64) (bo_boxes : Int64) (bo_person : Int64) (post : Int32 → Prop) : Nat → Int64 → Int64 → Int64 → Int32 → Prop
  | 0, _, _, _, _ => False
  | n + 1, v1, v3, v5, v7 =>
  if (64 : Int32) ≤ v7 then
  (post (-1 : Int32))
  else
  (if (v5 &&& v1) = (0 : Int64) then
  ((∃ n', BO_stepsTo_48 bo_floor bo_boxes bo_person (fun v1' v3' v5' v7' => BO_stepsTo_23 bo_floor bo_boxes bo_person post n v1' v3' v5' v7') post n' v1 v3 v5 v7 (0 : Int64) (0 : Int32)))
  else
  (post v7))
def BO_stepsTo (bo_floor : Int64) (bo_boxes : Int64) (bo_person : Int64) (v1 : Int64) (post : Int32 → Prop) : Prop :=
  ∀ v3_1 : Int64, v3_1 = (bo_floor &&& (bo_boxes ^^^ (-1 : Int64))) →
  (∃ n', BO_stepsTo_23 bo_floor bo_boxes bo_person post n' v1 v3_1 bo_person (0 : Int32))
def PB_way (bo_width : Int32) (bo_height : Int32) (bo_floor : Int64) (bo_boxes : Int64) (bo_person : Int64) (v1 : Int32) (v2 : Int32) (post : Int32 → Prop) (px : Int32 → Prop) : Prop :=
  PB_existing bo_width bo_height v1 v2 (fun r_1 =>
  BO_stepsTo bo_floor bo_boxes bo_person r_1 (fun r_3 =>
  post r_3)) (fun kd_2 => px kd_2)
def PB_dead (bo_width : Int32) (bo_height : Int32) (bo_floor : Int64) (bo_live : Int64) (v1 : Int32) (v2 : Int32) (post : Int32 → Prop) (px : Int32 → Prop) : Prop :=
  PB_existing bo_width bo_height v1 v2 (fun r_1 =>
  if ((r_1 &&& bo_floor) &&& (bo_live ^^^ (-1 : Int64))) = (0 : Int64) then
  (post (0 : Int32))
  else
  (post (1 : Int32))) (fun kd_2 => px kd_2)
def BO_standing_5 (bo_floor : Int64) (bo_liveBesideInRow : Int64) (bo_liveBesideInColumn : Int64) (post : Int64 → Prop) : Nat → Int64 → Int32 → Prop
  | 0, _, _ => False
  | n + 1, v3, v5 =>
  if (12 : Int32) < v5 then
  (post v3)
  else
  (∀ v6_1 : Int64, v6_1 = (bo_floor &&& (v3 ^^^ (-1 : Int64))) →
  PB_shifted v6_1 (0 : Int32) (fun r_2 =>
  PB_shifted v6_1 (2 : Int32) (fun r_3 =>
  ∀ v8_4 : Int64, v8_4 = ((r_2 &&& r_3) &&& bo_liveBesideInRow) →
  PB_shifted v6_1 (1 : Int32) (fun r_5 =>
  PB_shifted v6_1 (3 : Int32) (fun r_6 =>
  ∀ v10_7 : Int64, v10_7 = ((r_5 &&& r_6) &&& bo_liveBesideInColumn) →
  ∀ v12_8 : Int64, v12_8 = (v3 &&& ((v8_4 ||| v10_7) ^^^ (-1 : Int64))) →
  if v12_8 = v3 then
  (post v3)
  else
  (BO_standing_5 bo_floor bo_liveBesideInRow bo_liveBesideInColumn post n v12_8 (v5 + (1 : Int32))))))))
def BO_standing (bo_floor : Int64) (bo_liveBesideInRow : Int64) (bo_liveBesideInColumn : Int64) (v1 : Int64) (post : Int64 → Prop) : Prop :=
  (∃ n', BO_standing_5 bo_floor bo_liveBesideInRow bo_liveBesideInColumn post n' v1 (0 : Int32))
def PB_fast (bo_floor : Int64) (bo_boxes : Int64) (bo_liveBesideInRow : Int64) (bo_liveBesideInColumn : Int64) (post : Int32 → Prop) : Prop :=
  BO_standing bo_floor bo_liveBesideInRow bo_liveBesideInColumn bo_boxes (fun r_1 =>
  JL_bitCount r_1 (fun r_2 =>
  post r_2))
def BO_isStuck (bo_floor : Int64) (bo_goals : Int64) (bo_liveBesideInRow : Int64) (bo_liveBesideInColumn : Int64) (v1 : Int64) (post : Int32 → Prop) : Prop :=
  BO_standing bo_floor bo_liveBesideInRow bo_liveBesideInColumn v1 (fun r_1 =>
  if (r_1 &&& (bo_goals ^^^ (-1 : Int64))) = (0 : Int64) then
  (post (0 : Int32))
  else
  (post (1 : Int32)))
def PB_stuck (bo_floor : Int64) (bo_goals : Int64) (bo_boxes : Int64) (bo_liveBesideInRow : Int64) (bo_liveBesideInColumn : Int64) (post : Int32 → Prop) : Prop :=
  BO_isStuck bo_floor bo_goals bo_liveBesideInRow bo_liveBesideInColumn bo_boxes (fun r_1 =>
  (r_1 = 0 ∨ r_1 = 1) ∧
  post r_1)
def PB_has (v0 : Int64) (v2 : Int32) (post : Int32 → Prop) : Prop :=
  if ((v0.toUInt64 >>> (v2.toInt64.toUInt64 &&& Int64.toUInt64 63)).toInt64 &&& (1 : Int64)) = (0 : Int64) then
  (post (0 : Int32))
  else
  (post (1 : Int32))
def JA_fill_5 (fil_n : Nat) (post : (Nat → Int32) → Prop) : Nat → (Nat → Int32) → Int32 → Int32 → Int32 → Prop
  | 0, _, _, _, _ => False
  | n + 1, aFIL, v1, v2, v3 =>
  if v3 ≤ v2 then
  (post aFIL)
  else
  (vp_in v2 fil_n ∧
  ∀ aFIL_1 : Nat → Int32, aFIL_1 = (upd aFIL v2.toNatClampNeg v1) →
  JA_fill_5 fil_n post n aFIL_1 v1 (v2 + (1 : Int32)) v3)
def JA_fill (fil_n : Nat) (aFIL : Nat → Int32) (v1 : Int32) (post : (Nat → Int32) → Prop) : Prop :=
  ∀ v3_1 : Int32, v3_1 = (nI fil_n) →
  (∃ n', JA_fill_5 fil_n post n' aFIL v1 (0 : Int32) v3_1)
def BO_fillBoxSteps_94 (bo_floor : Int64) (k21 : (Nat → Int32) → Int64 → Int64 → Int32 → Prop) (post : (Nat → Int32) → Prop) : Nat → (Nat → Int32) → Int64 → Int64 → Int32 → Int64 → Int32 → Prop
  | 0, _, _, _, _, _, _ => False
  | n + 1, aBS, v3, v5, v7, v10, v12 =>
  if (4 : Int32) ≤ v12 then
  (∀ v5_1 : Int64, v5_1 = ((v10 &&& bo_floor) &&& (v3 ^^^ (-1 : Int64))) →
  k21 aBS v3 v5_1 (v7 + (1 : Int32)))
  else
  (PB_shifted bo_floor v12 (fun r_2 =>
  PB_shifted (v5 &&& r_2) v12 (fun r_3 =>
  ∀ v10_4 : Int64, v10_4 = (v10 ||| r_3) →
  BO_fillBoxSteps_94 bo_floor k21 post n aBS v3 v5 v7 v10_4 (v12 + (1 : Int32)))))
def BO_fillBoxSteps_83 (bo_floor : Int64) (k21 : (Nat → Int32) → Int64 → Int64 → Int32 → Prop) (post : (Nat → Int32) → Prop) (aBS : (Nat → Int32)) (v3 : Int64) (v5 : Int64) (v7 : Int32) : Prop :=
  ∀ v3_1 : Int64, v3_1 = (v3 ||| v5) →
  (∃ n', BO_fillBoxSteps_94 bo_floor k21 post n' aBS v3_1 v5 v7 (0 : Int64) (0 : Int32))
def BO_fillBoxSteps_42 (bo_floor : Int64) (k21 : (Nat → Int32) → Int64 → Int64 → Int32 → Prop) (post : (Nat → Int32) → Prop) : Nat → (Nat → Int32) → Int64 → Int64 → Int32 → Int64 → Int32 → Prop
  | 0, _, _, _, _, _, _ => False
  | n + 1, aBS, v3, v5, v7, v8, v10 =>
  if (64 : Int32) ≤ v10 then
  (BO_fillBoxSteps_83 bo_floor k21 post aBS v3 v5 v7)
  else
  (if v8 = (0 : Int64) then
  (BO_fillBoxSteps_83 bo_floor k21 post aBS v3 v5 v7)
  else
  (PB_spotOf v8 (fun r_1 =>
  vp_in r_1 64 ∧
  ∀ aBS_2 : Nat → Int32, aBS_2 = (upd aBS r_1.toNatClampNeg v7) →
  ∀ v8_3 : Int64, v8_3 = (v8 &&& (v8 - (1 : Int64))) →
  BO_fillBoxSteps_42 bo_floor k21 post n aBS_2 v3 v5 v7 v8_3 (v10 + (1 : Int32)))))
def BO_fillBoxSteps_21 (bo_floor : Int64) (post : (Nat → Int32) → Prop) : Nat → (Nat → Int32) → Int64 → Int64 → Int32 → Prop
  | 0, _, _, _, _ => False
  | n + 1, aBS, v3, v5, v7 =>
  if (64 : Int32) ≤ v7 then
  (post aBS)
  else
  (if v5 = (0 : Int64) then
  (post aBS)
  else
  ((∃ n', BO_fillBoxSteps_42 bo_floor (fun aBS' v3' v5' v7' => BO_fillBoxSteps_21 bo_floor post n aBS' v3' v5' v7') post n' aBS v3 v5 v7 v5 (0 : Int32))))
def BO_fillBoxSteps (bo_floor : Int64) (aBS : Nat → Int32) (v1 : Int64) (post : (Nat → Int32) → Prop) : Prop :=
  ∀ aBS_1 : Nat → Int32, aBS_1 = (aFill 64 (-1 : Int32) aBS) →
  ∀ v5_2 : Int64, v5_2 = (v1 &&& bo_floor) →
  (∃ n', BO_fillBoxSteps_21 bo_floor post n' aBS_1 (0 : Int64) v5_2 (0 : Int32))
def MT_setCost (aMC : Nat → Int32) (v1 : Int32) (v2 : Int32) (v3 : Int32) (post : (Nat → Int32) → Prop) : Prop :=
  if v1 < 0 then
  (post aMC)
  else
  (if (12 : Int32) ≤ v1 then
  (post aMC)
  else
  (if v2 < 0 then
  (post aMC)
  else
  (if (12 : Int32) ≤ v2 then
  (post aMC)
  else
  (if 0 ≤ v3 then
  (vp_in ((((v1 + (1 : Int32)) * (13 : Int32)) + v2) + (1 : Int32)) 169 ∧
  ∀ aMC_1 : Nat → Int32, aMC_1 = (upd aMC ((((v1 + (1 : Int32)) * (13 : Int32)) + v2) + (1 : Int32)).toNatClampNeg v3) →
  post aMC_1)
  else
  (vp_in ((((v1 + (1 : Int32)) * (13 : Int32)) + v2) + (1 : Int32)) 169 ∧
  ∀ aMC_2 : Nat → Int32, aMC_2 = (upd aMC ((((v1 + (1 : Int32)) * (13 : Int32)) + v2) + (1 : Int32)).toNatClampNeg (100000 : Int32)) →
  post aMC_2)))))
def MT_nextBox_128 (aMC : Nat → Int32) (aGB : Nat → Int32) (aSN : Nat → Int32) (post : Int32 → (Nat → Int32) → (Nat → Int32) → (Nat → Int32) → (Nat → Int32) → Prop) : Nat → (Nat → Int32) → (Nat → Int32) → (Nat → Int32) → (Nat → Int32) → Int32 → Int32 → Int32 → Int32 → Prop
  | 0, _, _, _, _, _, _, _, _ => False
  | n + 1, aGL, aBL, aBB, aSK, v2, v4, v5, v6 =>
  if v2 < v6 then
  (post v5 aGL aBL aBB aSK)
  else
  (vp_in v6 13 ∧
  if (aSN v6.toNatClampNeg) = 0 then
  (vp_in v6 13 ∧
  ∀ x_1 : Int32, x_1 = ((aSK v6.toNatClampNeg) - v4) →
  vp_in v6 13 ∧
  ∀ aSK_2 : Nat → Int32, aSK_2 = (upd aSK v6.toNatClampNeg x_1) →
  MT_nextBox_128 aMC aGB aSN post n aGL aBL aBB aSK_2 v2 v4 v5 (v6 + (1 : Int32)))
  else
  (vp_in v6 13 ∧
  vp_in (aGB v6.toNatClampNeg) 13 ∧
  ∀ x_3 : Int32, x_3 = ((aGL (aGB v6.toNatClampNeg).toNatClampNeg) + v4) →
  vp_in (aGB v6.toNatClampNeg) 13 ∧
  ∀ aGL_4 : Nat → Int32, aGL_4 = (upd aGL (aGB v6.toNatClampNeg).toNatClampNeg x_3) →
  vp_in v6 13 ∧
  ∀ x_5 : Int32, x_5 = ((aBL v6.toNatClampNeg) - v4) →
  vp_in v6 13 ∧
  ∀ aBL_6 : Nat → Int32, aBL_6 = (upd aBL v6.toNatClampNeg x_5) →
  MT_nextBox_128 aMC aGB aSN post n aGL_4 aBL_6 aBB aSK v2 v4 v5 (v6 + (1 : Int32))))
def MT_nextBox_94 (aMC : Nat → Int32) (aGB : Nat → Int32) (aSN : Nat → Int32) (k17 : (Nat → Int32) → (Nat → Int32) → (Nat → Int32) → (Nat → Int32) → Int32 → Int32 → Int32 → Int32 → Int32 → Int32 → Prop) (post : Int32 → (Nat → Int32) → (Nat → Int32) → (Nat → Int32) → (Nat → Int32) → Prop) (aGL : (Nat → Int32)) (aBL : (Nat → Int32)) (aBB : (Nat → Int32)) (aSK : (Nat → Int32)) (v1 : Int32) (v2 : Int32) (v3 : Int32) (v4 : Int32) (v5 : Int32) (v6 : Int32) : Prop :=
  vp_in v6 13 ∧
  if v4 ≤ (aSK v6.toNatClampNeg) then
  (k17 aGL aBL aBB aSK v1 v2 v3 v4 v5 (v6 + (1 : Int32)))
  else
  (vp_in v6 13 ∧
  ∀ v4_1 : Int32, v4_1 = (aSK v6.toNatClampNeg) →
  k17 aGL aBL aBB aSK v1 v2 v3 v4_1 v6 (v6 + (1 : Int32)))
def MT_nextBox_17 (aMC : Nat → Int32) (aGB : Nat → Int32) (aSN : Nat → Int32) (post : Int32 → (Nat → Int32) → (Nat → Int32) → (Nat → Int32) → (Nat → Int32) → Prop) : Nat → (Nat → Int32) → (Nat → Int32) → (Nat → Int32) → (Nat → Int32) → Int32 → Int32 → Int32 → Int32 → Int32 → Int32 → Prop
  | 0, _, _, _, _, _, _, _, _, _, _ => False
  | n + 1, aGL, aBL, aBB, aSK, v1, v2, v3, v4, v5, v6 =>
  if v2 < v6 then
  ((∃ n', MT_nextBox_128 aMC aGB aSN post n' aGL aBL aBB aSK v2 v4 v5 (0 : Int32)))
  else
  (vp_in v6 13 ∧
  if (aSN v6.toNatClampNeg) = 0 then
  (vp_in ((v3 * (13 : Int32)) + v6) 169 ∧
  vp_in v3 13 ∧
  vp_in v6 13 ∧
  ∀ v7_1 : Int32, v7_1 = (((aMC ((v3 * (13 : Int32)) + v6).toNatClampNeg) - (aGL v3.toNatClampNeg)) - (aBL v6.toNatClampNeg)) →
  vp_in v6 13 ∧
  if (aSK v6.toNatClampNeg) ≤ v7_1 then
  (MT_nextBox_94 aMC aGB aSN (fun aGL' aBL' aBB' aSK' v1' v2' v3' v4' v5' v6' => MT_nextBox_17 aMC aGB aSN post n aGL' aBL' aBB' aSK' v1' v2' v3' v4' v5' v6') post aGL aBL aBB aSK v1 v2 v3 v4 v5 v6)
  else
  (vp_in v6 13 ∧
  ∀ aSK_2 : Nat → Int32, aSK_2 = (upd aSK v6.toNatClampNeg v7_1) →
  vp_in v6 13 ∧
  ∀ aBB_3 : Nat → Int32, aBB_3 = (upd aBB v6.toNatClampNeg v1) →
  MT_nextBox_94 aMC aGB aSN (fun aGL' aBL' aBB' aSK' v1' v2' v3' v4' v5' v6' => MT_nextBox_17 aMC aGB aSN post n aGL' aBL' aBB' aSK' v1' v2' v3' v4' v5' v6') post aGL aBL aBB_3 aSK_2 v1 v2 v3 v4 v5 v6))
  else
  (MT_nextBox_17 aMC aGB aSN post n aGL aBL aBB aSK v1 v2 v3 v4 v5 (v6 + (1 : Int32))))
def MT_nextBox (aMC : Nat → Int32) (aGB : Nat → Int32) (aSN : Nat → Int32) (aGL : Nat → Int32) (aBL : Nat → Int32) (aBB : Nat → Int32) (aSK : Nat → Int32) (v1 : Int32) (v2 : Int32) (post : Int32 → (Nat → Int32) → (Nat → Int32) → (Nat → Int32) → (Nat → Int32) → Prop) : Prop :=
  vp_in v1 13 ∧
  ∀ v3_1 : Int32, v3_1 = (aGB v1.toNatClampNeg) →
  (∃ n', MT_nextBox_17 aMC aGB aSN post n' aGL aBL aBB aSK v1 v2 v3_1 (1000000000 : Int32) (0 : Int32) (1 : Int32))
def MT_giveBoxTo_81 (aMC : Nat → Int32) (post : (Nat → Int32) → (Nat → Int32) → (Nat → Int32) → (Nat → Int32) → (Nat → Int32) → (Nat → Int32) → Prop) : Nat → (Nat → Int32) → (Nat → Int32) → (Nat → Int32) → (Nat → Int32) → (Nat → Int32) → (Nat → Int32) → Int32 → Int32 → Int32 → Prop
  | 0, _, _, _, _, _, _, _, _, _ => False
  | n + 1, aGL, aBL, aGB, aBB, aSK, aSN, v2, v3, v4 =>
  if v2 < v4 then
  (post aGL aBL aGB aBB aSK aSN)
  else
  (if v3 = 0 then
  (post aGL aBL aGB aBB aSK aSN)
  else
  (vp_in v3 13 ∧
  ∀ v5_1 : Int32, v5_1 = (aBB v3.toNatClampNeg) →
  vp_in v5_1 13 ∧
  ∀ x_2 : Int32, x_2 = (aGB v5_1.toNatClampNeg) →
  vp_in v3 13 ∧
  ∀ aGB_3 : Nat → Int32, aGB_3 = (upd aGB v3.toNatClampNeg x_2) →
  MT_giveBoxTo_81 aMC post n aGL aBL aGB_3 aBB aSK aSN v2 v5_1 (v4 + (1 : Int32))))
def MT_giveBoxTo_40 (aMC : Nat → Int32) (post : (Nat → Int32) → (Nat → Int32) → (Nat → Int32) → (Nat → Int32) → (Nat → Int32) → (Nat → Int32) → Prop) : Nat → (Nat → Int32) → (Nat → Int32) → (Nat → Int32) → (Nat → Int32) → (Nat → Int32) → (Nat → Int32) → Int32 → Int32 → Int32 → Prop
  | 0, _, _, _, _, _, _, _, _, _ => False
  | n + 1, aGL, aBL, aGB, aBB, aSK, aSN, v2, v3, v4 =>
  if v2 < v4 then
  ((∃ n', MT_giveBoxTo_81 aMC post n' aGL aBL aGB aBB aSK aSN v2 v3 (0 : Int32)))
  else
  (vp_in v3 13 ∧
  ∀ aSN_1 : Nat → Int32, aSN_1 = (upd aSN v3.toNatClampNeg (1 : Int32)) →
  MT_nextBox aMC aGB aSN_1 aGL aBL aBB aSK v3 v2 (fun r_2 aGL_3 aBL_4 aBB_5 aSK_6 =>
  vp_in r_2 13 ∧
  if (aGB r_2.toNatClampNeg) = 0 then
  ((∃ n', MT_giveBoxTo_81 aMC post n' aGL_3 aBL_4 aGB aBB_5 aSK_6 aSN_1 v2 r_2 (0 : Int32)))
  else
  (MT_giveBoxTo_40 aMC post n aGL_3 aBL_4 aGB aBB_5 aSK_6 aSN_1 v2 r_2 (v4 + (1 : Int32)))))
def MT_giveBoxTo_9 (aMC : Nat → Int32) (post : (Nat → Int32) → (Nat → Int32) → (Nat → Int32) → (Nat → Int32) → (Nat → Int32) → (Nat → Int32) → Prop) : Nat → (Nat → Int32) → (Nat → Int32) → (Nat → Int32) → (Nat → Int32) → (Nat → Int32) → (Nat → Int32) → Int32 → Int32 → Prop
  | 0, _, _, _, _, _, _, _, _ => False
  | n + 1, aGL, aBL, aGB, aBB, aSK, aSN, v2, v3 =>
  if v2 < v3 then
  ((∃ n', MT_giveBoxTo_40 aMC post n' aGL aBL aGB aBB aSK aSN v2 (0 : Int32) (0 : Int32)))
  else
  (vp_in v3 13 ∧
  ∀ aSK_1 : Nat → Int32, aSK_1 = (upd aSK v3.toNatClampNeg (1000000000 : Int32)) →
  vp_in v3 13 ∧
  ∀ aSN_2 : Nat → Int32, aSN_2 = (upd aSN v3.toNatClampNeg (0 : Int32)) →
  MT_giveBoxTo_9 aMC post n aGL aBL aGB aBB aSK_1 aSN_2 v2 (v3 + (1 : Int32)))
def MT_giveBoxTo (aMC : Nat → Int32) (aGL : Nat → Int32) (aBL : Nat → Int32) (aGB : Nat → Int32) (aBB : Nat → Int32) (aSK : Nat → Int32) (aSN : Nat → Int32) (v1 : Int32) (v2 : Int32) (post : (Nat → Int32) → (Nat → Int32) → (Nat → Int32) → (Nat → Int32) → (Nat → Int32) → (Nat → Int32) → Prop) : Prop :=
  vp_in (0 : Int32) 13 ∧
  ∀ aGB_1 : Nat → Int32, aGB_1 = (upd aGB (0 : Int32).toNatClampNeg v1) →
  (∃ n', MT_giveBoxTo_9 aMC post n' aGL aBL aGB_1 aBB aSK aSN v2 (0 : Int32))
def MT_leastSum_61 (aMC : Nat → Int32) (post : Int32 → (Nat → Int32) → (Nat → Int32) → (Nat → Int32) → (Nat → Int32) → (Nat → Int32) → (Nat → Int32) → Prop) : Nat → (Nat → Int32) → (Nat → Int32) → (Nat → Int32) → (Nat → Int32) → (Nat → Int32) → (Nat → Int32) → Int32 → Int32 → Int32 → Prop
  | 0, _, _, _, _, _, _, _, _, _ => False
  | n + 1, aGL, aBL, aGB, aBB, aSK, aSN, v2, v3, v4 =>
  if v2 < v4 then
  (if v3 < (100000 : Int32) then
  (post v3 aGL aBL aGB aBB aSK aSN)
  else
  (post (-1 : Int32) aGL aBL aGB aBB aSK aSN))
  else
  (vp_in v4 13 ∧
  if (aGB v4.toNatClampNeg) = 0 then
  (MT_leastSum_61 aMC post n aGL aBL aGB aBB aSK aSN v2 v3 (v4 + (1 : Int32)))
  else
  (vp_in v4 13 ∧
  vp_in (((aGB v4.toNatClampNeg) * (13 : Int32)) + v4) 169 ∧
  ∀ v3_1 : Int32, v3_1 = (v3 + (aMC (((aGB v4.toNatClampNeg) * (13 : Int32)) + v4).toNatClampNeg)) →
  MT_leastSum_61 aMC post n aGL aBL aGB aBB aSK aSN v2 v3_1 (v4 + (1 : Int32))))
def MT_leastSum_39 (aMC : Nat → Int32) (post : Int32 → (Nat → Int32) → (Nat → Int32) → (Nat → Int32) → (Nat → Int32) → (Nat → Int32) → (Nat → Int32) → Prop) : Nat → (Nat → Int32) → (Nat → Int32) → (Nat → Int32) → (Nat → Int32) → (Nat → Int32) → (Nat → Int32) → Int32 → Int32 → Int32 → Prop
  | 0, _, _, _, _, _, _, _, _, _ => False
  | n + 1, aGL, aBL, aGB, aBB, aSK, aSN, v1, v2, v3 =>
  if v1 < v3 then
  ((∃ n', MT_leastSum_61 aMC post n' aGL aBL aGB aBB aSK aSN v2 (0 : Int32) (1 : Int32)))
  else
  (MT_giveBoxTo aMC aGL aBL aGB aBB aSK aSN v3 v2 (fun aGL_1 aBL_2 aGB_3 aBB_4 aSK_5 aSN_6 =>
  MT_leastSum_39 aMC post n aGL_1 aBL_2 aGB_3 aBB_4 aSK_5 aSN_6 v1 v2 (v3 + (1 : Int32))))
def MT_leastSum (aMC : Nat → Int32) (aGL : Nat → Int32) (aBL : Nat → Int32) (aGB : Nat → Int32) (aBB : Nat → Int32) (aSK : Nat → Int32) (aSN : Nat → Int32) (v1 : Int32) (v2 : Int32) (post : Int32 → (Nat → Int32) → (Nat → Int32) → (Nat → Int32) → (Nat → Int32) → (Nat → Int32) → (Nat → Int32) → Prop) : Prop :=
  if v2 < v1 then
  (post (-1 : Int32) aGL aBL aGB aBB aSK aSN)
  else
  (if v2 ≤ (12 : Int32) then
  (∀ aGL_1 : Nat → Int32, aGL_1 = (aFill 13 (0 : Int32) aGL) →
  ∀ aBL_2 : Nat → Int32, aBL_2 = (aFill 13 (0 : Int32) aBL) →
  ∀ aGB_3 : Nat → Int32, aGB_3 = (aFill 13 (0 : Int32) aGB) →
  (∃ n', MT_leastSum_39 aMC post n' aGL_1 aBL_2 aGB_3 aBB aSK aSN v1 v2 (1 : Int32)))
  else
  (post (-1 : Int32) aGL aBL aGB aBB aSK aSN))
def PB_bound_44 (bo_floor : Int64) (bo_goals : Int64) (bo_boxes : Int64) (k6 : (Nat → Int32) → (Nat → Int32) → (Nat → Int32) → (Nat → Int32) → (Nat → Int32) → (Nat → Int32) → (Nat → Int32) → (Nat → Int32) → Int32 → Int32 → Int32 → Prop) (post : Int32 → (Nat → Int32) → (Nat → Int32) → (Nat → Int32) → (Nat → Int32) → (Nat → Int32) → (Nat → Int32) → (Nat → Int32) → (Nat → Int32) → Prop) : Nat → (Nat → Int32) → (Nat → Int32) → (Nat → Int32) → (Nat → Int32) → (Nat → Int32) → (Nat → Int32) → (Nat → Int32) → (Nat → Int32) → Int32 → Int32 → Int32 → Int32 → Prop
  | 0, _, _, _, _, _, _, _, _, _, _, _, _ => False
  | n + 1, aBS, aMC, aGL, aBL, aGB, aBB, aSK, aSN, v1, v2, v3, v4 =>
  if (64 : Int32) ≤ v4 then
  (k6 aBS aMC aGL aBL aGB aBB aSK aSN (v1 + (1 : Int32)) v2 (v3 + (1 : Int32)))
  else
  (PB_has bo_goals v4 (fun r_1 =>
  if r_1 = 0 then
  (PB_bound_44 bo_floor bo_goals bo_boxes k6 post n aBS aMC aGL aBL aGB aBB aSK aSN v1 v2 v3 (v4 + (1 : Int32)))
  else
  (vp_in v4 64 ∧
  MT_setCost aMC v2 v1 (aBS v4.toNatClampNeg) (fun aMC_2 =>
  PB_bound_44 bo_floor bo_goals bo_boxes k6 post n aBS aMC_2 aGL aBL aGB aBB aSK aSN v1 (v2 + (1 : Int32)) v3 (v4 + (1 : Int32))))))
def PB_bound_6 (bo_floor : Int64) (bo_goals : Int64) (bo_boxes : Int64) (post : Int32 → (Nat → Int32) → (Nat → Int32) → (Nat → Int32) → (Nat → Int32) → (Nat → Int32) → (Nat → Int32) → (Nat → Int32) → (Nat → Int32) → Prop) : Nat → (Nat → Int32) → (Nat → Int32) → (Nat → Int32) → (Nat → Int32) → (Nat → Int32) → (Nat → Int32) → (Nat → Int32) → (Nat → Int32) → Int32 → Int32 → Int32 → Prop
  | 0, _, _, _, _, _, _, _, _, _, _, _ => False
  | n + 1, aBS, aMC, aGL, aBL, aGB, aBB, aSK, aSN, v1, v2, v3 =>
  if (64 : Int32) ≤ v3 then
  (MT_leastSum aMC aGL aBL aGB aBB aSK aSN v2 v1 (fun r_1 aGL_2 aBL_3 aGB_4 aBB_5 aSK_6 aSN_7 =>
  post r_1 aBS aMC aGL_2 aBL_3 aGB_4 aBB_5 aSK_6 aSN_7))
  else
  (PB_has bo_boxes v3 (fun r_8 =>
  if r_8 = 0 then
  (PB_bound_6 bo_floor bo_goals bo_boxes post n aBS aMC aGL aBL aGB aBB aSK aSN v1 v2 (v3 + (1 : Int32)))
  else
  (BO_fillBoxSteps bo_floor aBS ((1 : Int64) <<< (v3.toInt64 &&& 63)) (fun aBS_9 =>
  (∃ n', PB_bound_44 bo_floor bo_goals bo_boxes (fun aBS' aMC' aGL' aBL' aGB' aBB' aSK' aSN' v1' v2' v3' => PB_bound_6 bo_floor bo_goals bo_boxes post n aBS' aMC' aGL' aBL' aGB' aBB' aSK' aSN' v1' v2' v3') post n' aBS_9 aMC aGL aBL aGB aBB aSK aSN v1 (0 : Int32) v3 (0 : Int32))))))
def PB_bound (bo_floor : Int64) (bo_goals : Int64) (bo_boxes : Int64) (aBS : Nat → Int32) (aMC : Nat → Int32) (aGL : Nat → Int32) (aBL : Nat → Int32) (aGB : Nat → Int32) (aBB : Nat → Int32) (aSK : Nat → Int32) (aSN : Nat → Int32) (post : Int32 → (Nat → Int32) → (Nat → Int32) → (Nat → Int32) → (Nat → Int32) → (Nat → Int32) → (Nat → Int32) → (Nat → Int32) → (Nat → Int32) → Prop) : Prop :=
  (∃ n', PB_bound_6 bo_floor bo_goals bo_boxes post n' aBS aMC aGL aBL aGB aBB aSK aSN (0 : Int32) (0 : Int32) (0 : Int32))
def PB_pushes (bo_width : Int32) (bo_height : Int32) (bo_floor : Int64) (aBS : Nat → Int32) (v1 : Int32) (v2 : Int32) (v3 : Int32) (v4 : Int32) (post : Int32 → (Nat → Int32) → Prop) (px : Int32 → (Nat → Int32) → Prop) : Prop :=
  PB_existing bo_width bo_height v1 v2 (fun r_1 =>
  PB_existing bo_width bo_height v3 v4 (fun r_3 =>
  BO_fillBoxSteps bo_floor aBS r_1 (fun aBS_5 =>
  PB_spotOf r_3 (fun r_6 =>
  vp_in r_6 64 ∧
  post (aBS_5 r_6.toNatClampNeg) aBS_5))) (fun kd_4 => px kd_4 aBS)) (fun kd_2 => px kd_2 aBS)
def SE_slotOf_86 (sb_n : Nat) (aSB : Nat → Int64) (sl_n : Nat) (aSL : Nat → Int32) (ss_n : Nat) (aSS : Nat → Int32) (k37 : Int64 → Int32 → Int32 → Int32 → Int32 → Prop) (post : Int32 → Prop) (v1 : Int64) (v3 : Int32) (v4 : Int32) (v7 : Int32) (v8 : Int32) : Prop :=
  ∀ v7_1 : Int32, v7_1 = ((v7 + (1 : Int32)) &&& v4) →
  k37 v1 v3 v4 v7_1 (v8 + (1 : Int32))
def SE_slotOf_37 (sb_n : Nat) (aSB : Nat → Int64) (sl_n : Nat) (aSL : Nat → Int32) (ss_n : Nat) (aSS : Nat → Int32) (post : Int32 → Prop) : Nat → Int64 → Int32 → Int32 → Int32 → Int32 → Prop
  | 0, _, _, _, _, _ => False
  | n + 1, v1, v3, v4, v7, v8 =>
  if v4 ≤ v8 then
  (post v7)
  else
  (vp_in v7 ss_n ∧
  ∀ v9_1 : Int32, v9_1 = ((aSS v7.toNatClampNeg) - (1 : Int32)) →
  if v9_1 < 0 then
  (post v7)
  else
  (vp_in v9_1 sb_n ∧
  if (aSB v9_1.toNatClampNeg) = v1 then
  (vp_in v9_1 sl_n ∧
  if (aSL v9_1.toNatClampNeg) = v3 then
  (post v7)
  else
  (SE_slotOf_86 sb_n aSB sl_n aSL ss_n aSS (fun v1' v3' v4' v7' v8' => SE_slotOf_37 sb_n aSB sl_n aSL ss_n aSS post n v1' v3' v4' v7' v8') post v1 v3 v4 v7 v8))
  else
  (SE_slotOf_86 sb_n aSB sl_n aSL ss_n aSS (fun v1' v3' v4' v7' v8' => SE_slotOf_37 sb_n aSB sl_n aSL ss_n aSS post n v1' v3' v4' v7' v8') post v1 v3 v4 v7 v8)))
def SE_slotOf (sb_n : Nat) (aSB : Nat → Int64) (sl_n : Nat) (aSL : Nat → Int32) (ss_n : Nat) (aSS : Nat → Int32) (v1 : Int64) (v3 : Int32) (post : Int32 → Prop) : Prop :=
  ∀ v4_1 : Int32, v4_1 = ((nI ss_n) - (1 : Int32)) →
  ∀ v5_2 : Int64, v5_2 = (((v1 * (-7046029254386353131 : Int64)) + v3.toInt64) * (-7046029254386353131 : Int64)) →
  ∀ v7_3 : Int32, v7_3 = ((v5_2.toUInt64 >>> ((40 : Int32).toInt64.toUInt64 &&& Int64.toUInt64 63)).toInt64.toInt32 &&& v4_1) →
  (∃ n', SE_slotOf_37 sb_n aSB sl_n aSL ss_n aSS post n' v1 v3 v4_1 v7_3 (0 : Int32))
def SE_makeRoom_67 (se_count : Int32) (post : Nat → (Nat → Int64) → Nat → (Nat → Int32) → Nat → (Nat → Int32) → Nat → (Nat → Int32) → Nat → (Nat → Int32) → Prop) : Nat → Nat → (Nat → Int64) → Nat → (Nat → Int32) → Nat → (Nat → Int32) → Nat → (Nat → Int32) → Nat → (Nat → Int32) → Int32 → Prop
  | 0, _, _, _, _, _, _, _, _, _, _, _ => False
  | n + 1, sb_n, aSB, sl_n, aSL, sp_n, aSP, su_n, aSU, ss_n, aSS, v1 =>
  if se_count ≤ v1 then
  (post sb_n aSB sl_n aSL sp_n aSP su_n aSU ss_n aSS)
  else
  (vp_in v1 sb_n ∧
  vp_in v1 sl_n ∧
  SE_slotOf sb_n aSB sl_n aSL ss_n aSS (aSB v1.toNatClampNeg) (aSL v1.toNatClampNeg) (fun r_1 =>
  ∀ x_2 : Int32, x_2 = (v1 + (1 : Int32)) →
  vp_in r_1 ss_n ∧
  ∀ aSS_3 : Nat → Int32, aSS_3 = (upd aSS r_1.toNatClampNeg x_2) →
  SE_makeRoom_67 se_count post n sb_n aSB sl_n aSL sp_n aSP su_n aSU ss_n aSS_3 (v1 + (1 : Int32))))
def SE_makeRoom (se_count : Int32) (sb_n : Nat) (aSB : Nat → Int64) (sl_n : Nat) (aSL : Nat → Int32) (sp_n : Nat) (aSP : Nat → Int32) (su_n : Nat) (aSU : Nat → Int32) (ss_n : Nat) (aSS : Nat → Int32) (post : Nat → (Nat → Int64) → Nat → (Nat → Int32) → Nat → (Nat → Int32) → Nat → (Nat → Int32) → Nat → (Nat → Int32) → Prop) : Prop :=
  sb_n < 10000 ∧
  ∀ aSB_1 : Nat → Int64, aSB_1 = (aCopyL sb_n aSB) →
  sl_n < 10000 ∧
  ∀ aSL_2 : Nat → Int32, aSL_2 = (aCopy sl_n aSL) →
  sp_n < 10000 ∧
  ∀ aSP_3 : Nat → Int32, aSP_3 = (aCopy sp_n aSP) →
  su_n < 10000 ∧
  ∀ aSU_4 : Nat → Int32, aSU_4 = (aCopy su_n aSU) →
  (∃ n', SE_makeRoom_67 se_count post n' 10000 aSB_1 10000 aSL_2 10000 aSP_3 10000 aSU_4 16384 (fun _ => 0) (0 : Int32))
def SE_takeIn_16 (post : Int32 → Nat → (Nat → Int64) → Nat → (Nat → Int32) → Nat → (Nat → Int32) → Nat → (Nat → Int32) → Nat → (Nat → Int32) → Prop) (bc : Nat) (bs : Nat) (se_count : Int32) (sb_n : Nat) (aSB : (Nat → Int64)) (sl_n : Nat) (aSL : (Nat → Int32)) (sp_n : Nat) (aSP : (Nat → Int32)) (su_n : Nat) (aSU : (Nat → Int32)) (ss_n : Nat) (aSS : (Nat → Int32)) (v1 : Int64) (v3 : Int32) (v4 : Int32) (v5 : Int32) : Prop :=
  vp_in se_count sb_n ∧
  ∀ aSB_1 : Nat → Int64, aSB_1 = (vp_updL aSB se_count.toNatClampNeg v1) →
  vp_in se_count sl_n ∧
  ∀ aSL_2 : Nat → Int32, aSL_2 = (upd aSL se_count.toNatClampNeg v3) →
  vp_in se_count sp_n ∧
  ∀ aSP_3 : Nat → Int32, aSP_3 = (upd aSP se_count.toNatClampNeg v4) →
  vp_in se_count su_n ∧
  ∀ aSU_4 : Nat → Int32, aSU_4 = (upd aSU se_count.toNatClampNeg v5) →
  ∀ se_count_5 : Int32, se_count_5 = (se_count + (1 : Int32)) →
  SE_slotOf sb_n aSB_1 sl_n aSL_2 ss_n aSS v1 v3 (fun r_6 =>
  vp_in r_6 ss_n ∧
  ∀ aSS_7 : Nat → Int32, aSS_7 = (upd aSS r_6.toNatClampNeg se_count_5) →
  post se_count_5 sb_n aSB_1 sl_n aSL_2 sp_n aSP_3 su_n aSU_4 ss_n aSS_7)
def SE_takeIn (se_count : Int32) (sb_n : Nat) (aSB : Nat → Int64) (sl_n : Nat) (aSL : Nat → Int32) (sp_n : Nat) (aSP : Nat → Int32) (su_n : Nat) (aSU : Nat → Int32) (ss_n : Nat) (aSS : Nat → Int32) (v1 : Int64) (v3 : Int32) (v4 : Int32) (v5 : Int32) (bc bs : Nat) (post : Int32 → Nat → (Nat → Int64) → Nat → (Nat → Int32) → Nat → (Nat → Int32) → Nat → (Nat → Int32) → Nat → (Nat → Int32) → Prop) : Prop :=
  if se_count < (nI sb_n) then
  (SE_takeIn_16 post bc bs se_count sb_n aSB sl_n aSL sp_n aSP su_n aSU ss_n aSS v1 v3 v4 v5)
  else
  (5 ≤ bc ∧ 56384 ≤ bs ∧
  SE_makeRoom se_count sb_n aSB sl_n aSL sp_n aSP su_n aSU ss_n aSS (fun sb_n_1 aSB_2 sl_n_3 aSL_4 sp_n_5 aSP_6 su_n_7 aSU_8 ss_n_9 aSS_10 =>
  SE_takeIn_16 post (bc - 5) (bs - 56384) se_count sb_n_1 aSB_2 sl_n_3 aSL_4 sp_n_5 aSP_6 su_n_7 aSU_8 ss_n_9 aSS_10 v1 v3 v4 v5))
def SE_comeTo (bo_floor : Int64) (bo_goals : Int64) (bo_liveBesideInRow : Int64) (bo_liveBesideInColumn : Int64) (se_count : Int32) (se_found : Int32) (se_overfull : Int32) (sb_n : Nat) (aSB : Nat → Int64) (sl_n : Nat) (aSL : Nat → Int32) (sp_n : Nat) (aSP : Nat → Int32) (su_n : Nat) (aSU : Nat → Int32) (ss_n : Nat) (aSS : Nat → Int32) (v2 : Int64) (v4 : Int64) (v6 : Int32) (v7 : Int32) (v8 : Int32) (bc bs : Nat) (post : Int32 → Int32 → Int32 → Nat → (Nat → Int64) → Nat → (Nat → Int32) → Nat → (Nat → Int32) → Nat → (Nat → Int32) → Nat → (Nat → Int32) → Prop) : Prop :=
  BO_isStuck bo_floor bo_goals bo_liveBesideInRow bo_liveBesideInColumn v2 (fun r_1 =>
  if r_1 = 0 then
  (BO_reachOf bo_floor v4 v2 (fun r_2 =>
  PB_spotOf r_2 (fun r_3 =>
  SE_slotOf sb_n aSB sl_n aSL ss_n aSS v2 r_3 (fun r_4 =>
  vp_in r_4 ss_n ∧
  if (aSS r_4.toNatClampNeg) = 0 then
  (if se_count < v8 then
  (∃ bc_16 bs_17 : Nat, bc_16 ≤ bc ∧ bs_17 ≤ bs ∧
  SE_takeIn se_count sb_n aSB sl_n aSL sp_n aSP su_n aSU ss_n aSS v2 r_3 v6 v7 bc_16 bs_17 (fun se_count_5 sb_n_6 aSB_7 sl_n_8 aSL_9 sp_n_10 aSP_11 su_n_12 aSU_13 ss_n_14 aSS_15 =>
  BO_isDone bo_goals v2 (fun r_18 =>
  if r_18 = 0 then
  (post se_count_5 se_found se_overfull sb_n_6 aSB_7 sl_n_8 aSL_9 sp_n_10 aSP_11 su_n_12 aSU_13 ss_n_14 aSS_15)
  else
  (∀ se_found_19 : Int32, se_found_19 = (se_count_5 - (1 : Int32)) →
  post se_count_5 se_found_19 se_overfull sb_n_6 aSB_7 sl_n_8 aSL_9 sp_n_10 aSP_11 su_n_12 aSU_13 ss_n_14 aSS_15))))
  else
  (post se_count se_found (1 : Int32) sb_n aSB sl_n aSL sp_n aSP su_n aSU ss_n aSS))
  else
  (post se_count se_found se_overfull sb_n aSB sl_n aSL sp_n aSP su_n aSU ss_n aSS)))))
  else
  (post se_count se_found se_overfull sb_n aSB sl_n aSL sp_n aSP su_n aSU ss_n aSS))
def SE_pushFrom_69 (bo_width : Int32) (bo_floor : Int64) (bo_goals : Int64) (bo_live : Int64) (bo_liveBesideInRow : Int64) (bo_liveBesideInColumn : Int64) (k40 : Nat → Nat → Int32 → Int32 → Int32 → Nat → (Nat → Int64) → Nat → (Nat → Int32) → Nat → (Nat → Int32) → Nat → (Nat → Int32) → Nat → (Nat → Int32) → Int32 → Int32 → Int64 → Int64 → Int64 → Int32 → Prop) (post : Int32 → Int32 → Int32 → Nat → (Nat → Int64) → Nat → (Nat → Int32) → Nat → (Nat → Int32) → Nat → (Nat → Int32) → Nat → (Nat → Int32) → Prop) : Nat → Nat → Nat → Int32 → Int32 → Int32 → Nat → (Nat → Int64) → Nat → (Nat → Int32) → Nat → (Nat → Int32) → Nat → (Nat → Int32) → Nat → (Nat → Int32) → Int32 → Int32 → Int64 → Int64 → Int64 → Int32 → Int64 → Int32 → Prop
  | 0, _, _, _, _, _, _, _, _, _, _, _, _, _, _, _, _, _, _, _, _, _, _, _ => False
  | n + 1, bc, bs, se_count, se_found, se_overfull, sb_n, aSB, sl_n, aSL, sp_n, aSP, su_n, aSU, ss_n, aSS, v2, v3, v4, v6, v8, v10, v11, v13 =>
  if (4 : Int32) ≤ v13 then
  (k40 bc bs se_count se_found se_overfull sb_n aSB sl_n aSL sp_n aSP su_n aSU ss_n aSS v2 v3 v4 v6 v8 (v10 + (1 : Int32)))
  else
  (PB_shifted v11 v13 (fun r_1 =>
  ∀ v14_2 : Int64, v14_2 = (r_1 &&& v8) →
  if v14_2 = (0 : Int64) then
  (SE_pushFrom_69 bo_width bo_floor bo_goals bo_live bo_liveBesideInRow bo_liveBesideInColumn k40 post n bc bs se_count se_found se_overfull sb_n aSB sl_n aSL sp_n aSP su_n aSU ss_n aSS v2 v3 v4 v6 v8 v10 v11 (v13 + (1 : Int32)))
  else
  (PB_against v13 (fun r_3 =>
  PB_shifted v11 r_3 (fun r_4 =>
  if (r_4 &&& v6) = (0 : Int64) then
  (SE_pushFrom_69 bo_width bo_floor bo_goals bo_live bo_liveBesideInRow bo_liveBesideInColumn k40 post n bc bs se_count se_found se_overfull sb_n aSB sl_n aSL sp_n aSP su_n aSU ss_n aSS v2 v3 v4 v6 v8 v10 v11 (v13 + (1 : Int32)))
  else
  (BO_cellOf bo_width v11 (fun r_5 =>
  ∃ bc_19 bs_20 : Nat, bc_19 ≤ bc ∧ bs_20 ≤ bs ∧
  SE_comeTo bo_floor bo_goals bo_liveBesideInRow bo_liveBesideInColumn se_count se_found se_overfull sb_n aSB sl_n aSL sp_n aSP su_n aSU ss_n aSS ((v4 ^^^ v11) ^^^ v14_2) v11 v2 (((4 : Int32) * r_5) + v13) v3 bc_19 bs_20 (fun se_count_6 se_found_7 se_overfull_8 sb_n_9 aSB_10 sl_n_11 aSL_12 sp_n_13 aSP_14 su_n_15 aSU_16 ss_n_17 aSS_18 =>
  if 0 ≤ se_found_7 then
  (post se_count_6 se_found_7 se_overfull_8 sb_n_9 aSB_10 sl_n_11 aSL_12 sp_n_13 aSP_14 su_n_15 aSU_16 ss_n_17 aSS_18)
  else
  (if se_overfull_8 = 0 then
  (SE_pushFrom_69 bo_width bo_floor bo_goals bo_live bo_liveBesideInRow bo_liveBesideInColumn k40 post n (bc - bc_19) (bs - bs_20) se_count_6 se_found_7 se_overfull_8 sb_n_9 aSB_10 sl_n_11 aSL_12 sp_n_13 aSP_14 su_n_15 aSU_16 ss_n_17 aSS_18 v2 v3 v4 v6 v8 v10 v11 (v13 + (1 : Int32)))
  else
  (post se_count_6 se_found_7 se_overfull_8 sb_n_9 aSB_10 sl_n_11 aSL_12 sp_n_13 aSP_14 su_n_15 aSU_16 ss_n_17 aSS_18))))))))))
def SE_pushFrom_40 (bo_width : Int32) (bo_floor : Int64) (bo_goals : Int64) (bo_live : Int64) (bo_liveBesideInRow : Int64) (bo_liveBesideInColumn : Int64) (post : Int32 → Int32 → Int32 → Nat → (Nat → Int64) → Nat → (Nat → Int32) → Nat → (Nat → Int32) → Nat → (Nat → Int32) → Nat → (Nat → Int32) → Prop) : Nat → Nat → Nat → Int32 → Int32 → Int32 → Nat → (Nat → Int64) → Nat → (Nat → Int32) → Nat → (Nat → Int32) → Nat → (Nat → Int32) → Nat → (Nat → Int32) → Int32 → Int32 → Int64 → Int64 → Int64 → Int32 → Prop
  | 0, _, _, _, _, _, _, _, _, _, _, _, _, _, _, _, _, _, _, _, _, _ => False
  | n + 1, bc, bs, se_count, se_found, se_overfull, sb_n, aSB, sl_n, aSL, sp_n, aSP, su_n, aSU, ss_n, aSS, v2, v3, v4, v6, v8, v10 =>
  if (64 : Int32) ≤ v10 then
  (post se_count se_found se_overfull sb_n aSB sl_n aSL sp_n aSP su_n aSU ss_n aSS)
  else
  (PB_has v4 v10 (fun r_1 =>
  if r_1 = 0 then
  (SE_pushFrom_40 bo_width bo_floor bo_goals bo_live bo_liveBesideInRow bo_liveBesideInColumn post n bc bs se_count se_found se_overfull sb_n aSB sl_n aSL sp_n aSP su_n aSU ss_n aSS v2 v3 v4 v6 v8 (v10 + (1 : Int32)))
  else
  (∀ v11_2 : Int64, v11_2 = ((1 : Int64) <<< (v10.toInt64 &&& 63)) →
  (∃ n', SE_pushFrom_69 bo_width bo_floor bo_goals bo_live bo_liveBesideInRow bo_liveBesideInColumn (fun bc' bs' se_count' se_found' se_overfull' sb_n' aSB' sl_n' aSL' sp_n' aSP' su_n' aSU' ss_n' aSS' v2' v3' v4' v6' v8' v10' => SE_pushFrom_40 bo_width bo_floor bo_goals bo_live bo_liveBesideInRow bo_liveBesideInColumn post n bc' bs' se_count' se_found' se_overfull' sb_n' aSB' sl_n' aSL' sp_n' aSP' su_n' aSU' ss_n' aSS' v2' v3' v4' v6' v8' v10') post n' bc bs se_count se_found se_overfull sb_n aSB sl_n aSL sp_n aSP su_n aSU ss_n aSS v2 v3 v4 v6 v8 v10 v11_2 (0 : Int32)))))
def SE_pushFrom (bo_width : Int32) (bo_floor : Int64) (bo_goals : Int64) (bo_live : Int64) (bo_liveBesideInRow : Int64) (bo_liveBesideInColumn : Int64) (se_count : Int32) (se_found : Int32) (se_overfull : Int32) (sb_n : Nat) (aSB : Nat → Int64) (sl_n : Nat) (aSL : Nat → Int32) (sp_n : Nat) (aSP : Nat → Int32) (su_n : Nat) (aSU : Nat → Int32) (ss_n : Nat) (aSS : Nat → Int32) (v2 : Int32) (v3 : Int32) (bc bs : Nat) (post : Int32 → Int32 → Int32 → Nat → (Nat → Int64) → Nat → (Nat → Int32) → Nat → (Nat → Int32) → Nat → (Nat → Int32) → Nat → (Nat → Int32) → Prop) : Prop :=
  vp_in v2 sb_n ∧
  ∀ v4_1 : Int64, v4_1 = (aSB v2.toNatClampNeg) →
  vp_in v2 sl_n ∧
  BO_reachOf bo_floor ((1 : Int64) <<< ((aSL v2.toNatClampNeg).toInt64 &&& 63)) v4_1 (fun r_2 =>
  ∀ v8_3 : Int64, v8_3 = (bo_live &&& (v4_1 ^^^ (-1 : Int64))) →
  (∃ n', SE_pushFrom_40 bo_width bo_floor bo_goals bo_live bo_liveBesideInRow bo_liveBesideInColumn post n' bc bs se_count se_found se_overfull sb_n aSB sl_n aSL sp_n aSP su_n aSU ss_n aSS v2 v3 v4_1 r_2 v8_3 (0 : Int32)))
def SE_pushesTo_7 (se_count : Int32) (sp_n : Nat) (aSP : Nat → Int32) (post : Int32 → Prop) : Nat → Int32 → Int32 → Int32 → Prop
  | 0, _, _, _ => False
  | n + 1, v2, v3, v4 =>
  if se_count ≤ v4 then
  (post v2)
  else
  (if v3 ≤ 0 then
  (post v2)
  else
  (vp_in v3 sp_n ∧
  ∀ v3_1 : Int32, v3_1 = (aSP v3.toNatClampNeg) →
  SE_pushesTo_7 se_count sp_n aSP post n (v2 + (1 : Int32)) v3_1 (v4 + (1 : Int32))))
def SE_pushesTo (se_count : Int32) (sp_n : Nat) (aSP : Nat → Int32) (v1 : Int32) (post : Int32 → Prop) : Prop :=
  (∃ n', SE_pushesTo_7 se_count sp_n aSP post n' (0 : Int32) v1 (0 : Int32))
def SE_run_122 (bo_width : Int32) (bo_floor : Int64) (bo_goals : Int64) (bo_live : Int64) (bo_boxes : Int64) (bo_person : Int64) (bo_liveBesideInRow : Int64) (bo_liveBesideInColumn : Int64) (post : Int32 → Int32 → Int32 → Int32 → Int32 → Nat → (Nat → Int64) → Nat → (Nat → Int32) → Nat → (Nat → Int32) → Nat → (Nat → Int32) → Nat → (Nat → Int32) → Prop) (bc : Nat) (bs : Nat) (se_count : Int32) (se_length : Int32) (se_found : Int32) (se_overfull : Int32) (sb_n : Nat) (aSB : (Nat → Int64)) (sl_n : Nat) (aSL : (Nat → Int32)) (sp_n : Nat) (aSP : (Nat → Int32)) (su_n : Nat) (aSU : (Nat → Int32)) (ss_n : Nat) (aSS : (Nat → Int32)) : Prop :=
  if se_overfull = 0 then
  (SE_pushesTo se_count sp_n aSP se_found (fun r_1 =>
  if 0 ≤ se_found then
  (post r_1 se_count r_1 se_found se_overfull sb_n aSB sl_n aSL sp_n aSP su_n aSU ss_n aSS)
  else
  (post (-1 : Int32) se_count r_1 se_found se_overfull sb_n aSB sl_n aSL sp_n aSP su_n aSU ss_n aSS)))
  else
  (post (-2 : Int32) se_count se_length se_found se_overfull sb_n aSB sl_n aSL sp_n aSP su_n aSU ss_n aSS)
def SE_run_74 (bo_width : Int32) (bo_floor : Int64) (bo_goals : Int64) (bo_live : Int64) (bo_boxes : Int64) (bo_person : Int64) (bo_liveBesideInRow : Int64) (bo_liveBesideInColumn : Int64) (post : Int32 → Int32 → Int32 → Int32 → Int32 → Nat → (Nat → Int64) → Nat → (Nat → Int32) → Nat → (Nat → Int32) → Nat → (Nat → Int32) → Nat → (Nat → Int32) → Prop) : Nat → Nat → Nat → Int32 → Int32 → Int32 → Int32 → Nat → (Nat → Int64) → Nat → (Nat → Int32) → Nat → (Nat → Int32) → Nat → (Nat → Int32) → Nat → (Nat → Int32) → Int32 → Int32 → Prop
  | 0, _, _, _, _, _, _, _, _, _, _, _, _, _, _, _, _, _, _ => False
  | n + 1, bc, bs, se_count, se_length, se_found, se_overfull, sb_n, aSB, sl_n, aSL, sp_n, aSP, su_n, aSU, ss_n, aSS, v2, v4 =>
  if se_count ≤ v4 then
  (SE_run_122 bo_width bo_floor bo_goals bo_live bo_boxes bo_person bo_liveBesideInRow bo_liveBesideInColumn post bc bs se_count se_length se_found se_overfull sb_n aSB sl_n aSL sp_n aSP su_n aSU ss_n aSS)
  else
  (if (10000 : Int32) ≤ v4 then
  (SE_run_122 bo_width bo_floor bo_goals bo_live bo_boxes bo_person bo_liveBesideInRow bo_liveBesideInColumn post bc bs se_count se_length se_found se_overfull sb_n aSB sl_n aSL sp_n aSP su_n aSU ss_n aSS)
  else
  (if 0 ≤ se_found then
  (SE_run_122 bo_width bo_floor bo_goals bo_live bo_boxes bo_person bo_liveBesideInRow bo_liveBesideInColumn post bc bs se_count se_length se_found se_overfull sb_n aSB sl_n aSL sp_n aSP su_n aSU ss_n aSS)
  else
  (if se_overfull = 0 then
  (∃ bc_14 bs_15 : Nat, bc_14 ≤ bc ∧ bs_15 ≤ bs ∧
  SE_pushFrom bo_width bo_floor bo_goals bo_live bo_liveBesideInRow bo_liveBesideInColumn se_count se_found se_overfull sb_n aSB sl_n aSL sp_n aSP su_n aSU ss_n aSS v4 v2 bc_14 bs_15 (fun se_count_1 se_found_2 se_overfull_3 sb_n_4 aSB_5 sl_n_6 aSL_7 sp_n_8 aSP_9 su_n_10 aSU_11 ss_n_12 aSS_13 =>
  SE_run_74 bo_width bo_floor bo_goals bo_live bo_boxes bo_person bo_liveBesideInRow bo_liveBesideInColumn post n (bc - bc_14) (bs - bs_15) se_count_1 se_length se_found_2 se_overfull_3 sb_n_4 aSB_5 sl_n_6 aSL_7 sp_n_8 aSP_9 su_n_10 aSU_11 ss_n_12 aSS_13 v2 (v4 + (1 : Int32))))
  else
  (SE_run_122 bo_width bo_floor bo_goals bo_live bo_boxes bo_person bo_liveBesideInRow bo_liveBesideInColumn post bc bs se_count se_length se_found se_overfull sb_n aSB sl_n aSL sp_n aSP su_n aSU ss_n aSS))))
def SE_run (bo_width : Int32) (bo_floor : Int64) (bo_goals : Int64) (bo_live : Int64) (bo_boxes : Int64) (bo_person : Int64) (bo_liveBesideInRow : Int64) (bo_liveBesideInColumn : Int64) (se_count : Int32) (se_length : Int32) (se_found : Int32) (se_overfull : Int32) (sb_n : Nat) (aSB : Nat → Int64) (sl_n : Nat) (aSL : Nat → Int32) (sp_n : Nat) (aSP : Nat → Int32) (su_n : Nat) (aSU : Nat → Int32) (ss_n : Nat) (aSS : Nat → Int32) (v2 : Int32) (bc bs : Nat) (post : Int32 → Int32 → Int32 → Int32 → Int32 → Nat → (Nat → Int64) → Nat → (Nat → Int32) → Nat → (Nat → Int32) → Nat → (Nat → Int32) → Nat → (Nat → Int32) → Prop) : Prop :=
  ss_n < 2147483648 ∧
  ∀ aSS_1 : Nat → Int32, aSS_1 = (aFill ss_n (0 : Int32) aSS) →
  BO_reachOf bo_floor bo_person bo_boxes (fun r_2 =>
  PB_spotOf r_2 (fun r_3 =>
  ∃ bc_15 bs_16 : Nat, bc_15 ≤ bc ∧ bs_16 ≤ bs ∧
  SE_takeIn (0 : Int32) sb_n aSB sl_n aSL sp_n aSP su_n aSU ss_n aSS_1 bo_boxes r_3 (0 : Int32) (0 : Int32) bc_15 bs_16 (fun se_count_4 sb_n_5 aSB_6 sl_n_7 aSL_8 sp_n_9 aSP_10 su_n_11 aSU_12 ss_n_13 aSS_14 =>
  BO_isDone bo_goals bo_boxes (fun r_17 =>
  if r_17 = 0 then
  ((∃ n', SE_run_74 bo_width bo_floor bo_goals bo_live bo_boxes bo_person bo_liveBesideInRow bo_liveBesideInColumn post n' (bc - bc_15) (bs - bs_16) se_count_4 (0 : Int32) (-1 : Int32) (0 : Int32) sb_n_5 aSB_6 sl_n_7 aSL_8 sp_n_9 aSP_10 su_n_11 aSU_12 ss_n_13 aSS_14 v2 (0 : Int32)))
  else
  ((∃ n', SE_run_74 bo_width bo_floor bo_goals bo_live bo_boxes bo_person bo_liveBesideInRow bo_liveBesideInColumn post n' (bc - bc_15) (bs - bs_16) se_count_4 (0 : Int32) (0 : Int32) (0 : Int32) sb_n_5 aSB_6 sl_n_7 aSL_8 sp_n_9 aSP_10 su_n_11 aSU_12 ss_n_13 aSS_14 v2 (0 : Int32)))))))
def PB_search (bo_width : Int32) (bo_floor : Int64) (bo_goals : Int64) (bo_live : Int64) (bo_boxes : Int64) (bo_person : Int64) (bo_liveBesideInRow : Int64) (bo_liveBesideInColumn : Int64) (se_count : Int32) (se_length : Int32) (se_found : Int32) (se_overfull : Int32) (sb_n : Nat) (aSB : Nat → Int64) (sl_n : Nat) (aSL : Nat → Int32) (sp_n : Nat) (aSP : Nat → Int32) (su_n : Nat) (aSU : Nat → Int32) (ss_n : Nat) (aSS : Nat → Int32) (v1 : Int32) (bc bs : Nat) (post : Int32 → Int32 → Int32 → Int32 → Int32 → Nat → (Nat → Int64) → Nat → (Nat → Int32) → Nat → (Nat → Int32) → Nat → (Nat → Int32) → Nat → (Nat → Int32) → Prop) : Prop :=
  if v1 < (1 : Int32) then
  (post (-3 : Int32) se_count se_length se_found se_overfull sb_n aSB sl_n aSL sp_n aSP su_n aSU ss_n aSS)
  else
  (if (10000 : Int32) < v1 then
  (post (-3 : Int32) se_count se_length se_found se_overfull sb_n aSB sl_n aSL sp_n aSP su_n aSU ss_n aSS)
  else
  (BO_isThere bo_person (fun r_1 =>
  if r_1 = 0 then
  (post (-3 : Int32) se_count se_length se_found se_overfull sb_n aSB sl_n aSL sp_n aSP su_n aSU ss_n aSS)
  else
  (∃ bc_17 bs_18 : Nat, bc_17 ≤ bc ∧ bs_18 ≤ bs ∧
  SE_run bo_width bo_floor bo_goals bo_live bo_boxes bo_person bo_liveBesideInRow bo_liveBesideInColumn se_count se_length se_found se_overfull sb_n aSB sl_n aSL sp_n aSP su_n aSU ss_n aSS v1 bc_17 bs_18 (fun r_2 se_count_3 se_length_4 se_found_5 se_overfull_6 sb_n_7 aSB_8 sl_n_9 aSL_10 sp_n_11 aSP_12 su_n_13 aSU_14 ss_n_15 aSS_16 =>
  post r_2 se_count_3 se_length_4 se_found_5 se_overfull_6 sb_n_7 aSB_8 sl_n_9 aSL_10 sp_n_11 aSP_12 su_n_13 aSU_14 ss_n_15 aSS_16)))))
def SE_pushAt_12 (se_length : Int32) (se_found : Int32) (sp_n : Nat) (aSP : Nat → Int32) (su_n : Nat) (aSU : Nat → Int32) (post : Int32 → Prop) : Nat → Int32 → Int32 → Int32 → Prop
  | 0, _, _, _ => False
  | n + 1, v1, v2, v3 =>
  if v3 ≤ v1 then
  (vp_in v2 su_n ∧
  post (aSU v2.toNatClampNeg))
  else
  (vp_in v2 sp_n ∧
  ∀ v2_1 : Int32, v2_1 = (aSP v2.toNatClampNeg) →
  SE_pushAt_12 se_length se_found sp_n aSP su_n aSU post n v1 v2_1 (v3 + (-1 : Int32)))
def SE_pushAt (se_length : Int32) (se_found : Int32) (sp_n : Nat) (aSP : Nat → Int32) (su_n : Nat) (aSU : Nat → Int32) (v1 : Int32) (post : Int32 → Prop) : Prop :=
  ∀ v3_1 : Int32, v3_1 = (se_length - (1 : Int32)) →
  (∃ n', SE_pushAt_12 se_length se_found sp_n aSP su_n aSU post n' v1 se_found v3_1)
def PB_push (se_length : Int32) (se_found : Int32) (sp_n : Nat) (aSP : Nat → Int32) (su_n : Nat) (aSU : Nat → Int32) (v1 : Int32) (post : Int32 → Prop) : Prop :=
  if v1 < 0 then
  (post (-1 : Int32))
  else
  (if v1 < se_length then
  (SE_pushAt se_length se_found sp_n aSP su_n aSU v1 (fun r_1 =>
  post r_1))
  else
  (post (-1 : Int32)))
def PB_states (se_count : Int32) (post : Int32 → Prop) : Prop :=
  post se_count
def MO_thrown (mo_thrown : Int32) (post : Int32 → Prop) : Prop :=
  post mo_thrown
def MO_throwsIf (mo_thrown : Int32) (v1 : Int32) (v2 : Int32) (post : Int32 → Int32 → Prop) : Prop :=
  if v2 = 0 then
  ((v2 = 0 ∨ v2 = 1) ∧
  post v2 (0 : Int32))
  else
  ((v2 = 0 ∨ v2 = 1) ∧
  post v2 v1)
def MO_isCell (mo_width : Int32) (mo_height : Int32) (v1 : Int32) (v2 : Int32) (post : Int32 → Prop) : Prop :=
  if v1 < 0 then
  (post (0 : Int32))
  else
  (if mo_width ≤ v1 then
  (post (0 : Int32))
  else
  (if v2 < 0 then
  (post (0 : Int32))
  else
  (if mo_height ≤ v2 then
  (post (0 : Int32))
  else
  (post (1 : Int32)))))
def MO_has (v0 : Int64) (v2 : Int32) (post : Int32 → Prop) : Prop :=
  if v2 < 0 then
  (post (0 : Int32))
  else
  (if ((v0 >>> (v2.toInt64 &&& 63)) &&& (1 : Int64)) = (1 : Int64) then
  (post (1 : Int32))
  else
  (post (0 : Int32)))
def MO_beside_47 (mo_width : Int32) (mo_height : Int32) (post : Int32 → Prop) (v3 : Int32) (t0 : Int32) (t1 : Int32) : Prop :=
  ∀ v4_1 : Int32, v4_1 = (t0 + t1) →
  MO_isCell mo_width mo_height v3 v4_1 (fun r_2 =>
  if r_2 = 0 then
  (post (-1 : Int32))
  else
  (post (((8 : Int32) * v4_1) + v3)))
def MO_beside_22 (mo_width : Int32) (mo_height : Int32) (post : Int32 → Prop) (v1 : Int32) (v2 : Int32) (t0 : Int32) (t1 : Int32) : Prop :=
  ∀ v3_1 : Int32, v3_1 = (t0 + t1) →
  if v2 = (1 : Int32) then
  (MO_beside_47 mo_width mo_height post v3_1 (v1 / (8 : Int32)) (1 : Int32))
  else
  (if v2 = (3 : Int32) then
  (MO_beside_47 mo_width mo_height post v3_1 (v1 / (8 : Int32)) (-1 : Int32))
  else
  (MO_beside_47 mo_width mo_height post v3_1 (v1 / (8 : Int32)) (0 : Int32)))
def MO_beside (mo_width : Int32) (mo_height : Int32) (v1 : Int32) (v2 : Int32) (post : Int32 → Prop) : Prop :=
  if v2 = 0 then
  (MO_beside_22 mo_width mo_height post v1 v2 (v1 - v1 / (8 : Int32) * (8 : Int32)) (1 : Int32))
  else
  (if v2 = (2 : Int32) then
  (MO_beside_22 mo_width mo_height post v1 v2 (v1 - v1 / (8 : Int32) * (8 : Int32)) (-1 : Int32))
  else
  (MO_beside_22 mo_width mo_height post v1 v2 (v1 - v1 / (8 : Int32) * (8 : Int32)) (0 : Int32)))
def MO_against (v1 : Int32) (post : Int32 → Prop) : Prop :=
  post ((v1 + (2 : Int32)) - (v1 + (2 : Int32)) / (4 : Int32) * (4 : Int32))
def MO_number (mo_width : Int32) (v1 : Int32) (post : Int32 → Prop) : Prop :=
  post (((v1 / (8 : Int32)) * mo_width) + (v1 - v1 / (8 : Int32) * (8 : Int32)))
def MO_countOf_4 (post : Int32 → Prop) : Nat → Int64 → Int32 → Int32 → Prop
  | 0, _, _, _ => False
  | n + 1, v0, v2, v3 =>
  if (64 : Int32) ≤ v3 then
  (post v2)
  else
  (∀ v2_1 : Int32, v2_1 = (v2 + ((v0 >>> (v3.toInt64 &&& 63)) &&& (1 : Int64)).toInt32) →
  MO_countOf_4 post n v0 v2_1 (v3 + (1 : Int32)))
def MO_countOf (v0 : Int64) (post : Int32 → Prop) : Prop :=
  (∃ n', MO_countOf_4 post n' v0 (0 : Int32) (0 : Int32))
def MO_unit (mo_thrown : Int32) (mo_size : Int32) (aTM : Nat → Int32) (v1 : Int32) (post : Int32 → Int32 → Int32 → (Nat → Int32) → Prop) : Prop :=
  if v1 < 0 then
  (post (0 : Int32) (0 : Int32) mo_size aTM)
  else
  (if (255 : Int32) < v1 then
  (post (0 : Int32) (0 : Int32) mo_size aTM)
  else
  (if mo_size = (160 : Int32) then
  (post (0 : Int32) (0 : Int32) mo_size aTM)
  else
  (vp_in mo_size 160 ∧
  ∀ aTM_1 : Nat → Int32, aTM_1 = (upd aTM mo_size.toNatClampNeg v1) →
  ∀ mo_size_2 : Int32, mo_size_2 = (mo_size + (1 : Int32)) →
  post (1 : Int32) (0 : Int32) mo_size_2 aTM_1)))
def MO_look_119 (mo_size : Int32) (aTM : Nat → Int32) (k124 : Int64 → Int64 → Int64 → Int32 → Int32 → Int32 → Int32 → Int32 → Int32 → Int32 → Int32 → Prop) (post : Int32 → Int64 → Int64 → Int64 → Int32 → Int32 → Prop) (mo_newFloor : Int64) (mo_newGoals : Int64) (mo_newBoxes : Int64) (mo_newPerson : Int32) (mo_newWidth : Int32) (v1 : Int32) (v2 : Int32) (v3 : Int32) (v4 : Int32) (v5 : Int32) : Prop :=
  k124 mo_newFloor mo_newGoals mo_newBoxes mo_newPerson mo_newWidth v1 v2 v3 v4 v5 (1 : Int32)
def MO_look_140 (mo_size : Int32) (aTM : Nat → Int32) (k145 : Int64 → Int64 → Int64 → Int32 → Int32 → Int32 → Int32 → Int32 → Int32 → Int32 → Int32 → Int32 → Prop) (post : Int32 → Int64 → Int64 → Int64 → Int32 → Int32 → Prop) (mo_newFloor : Int64) (mo_newGoals : Int64) (mo_newBoxes : Int64) (mo_newPerson : Int32) (mo_newWidth : Int32) (v1 : Int32) (v2 : Int32) (v3 : Int32) (v4 : Int32) (v5 : Int32) (v6 : Int32) : Prop :=
  k145 mo_newFloor mo_newGoals mo_newBoxes mo_newPerson mo_newWidth v1 v2 v3 v4 v5 v6 (1 : Int32)
def MO_look_339 (mo_size : Int32) (aTM : Nat → Int32) (k31 : Int64 → Int64 → Int64 → Int32 → Int32 → Int32 → Int32 → Int32 → Prop) (post : Int32 → Int64 → Int64 → Int64 → Int32 → Int32 → Prop) (mo_newFloor : Int64) (mo_newGoals : Int64) (mo_newBoxes : Int64) (mo_newPerson : Int32) (mo_newWidth : Int32) (v1 : Int32) (v2 : Int32) (v3 : Int32) (t1 : Int32) : Prop :=
  if (v1 + (1 : Int32)) ≤ mo_newWidth then
  (k31 mo_newFloor mo_newGoals mo_newBoxes t1 mo_newWidth (v1 + (1 : Int32)) v2 (v3 + (1 : Int32)))
  else
  (∀ mo_newWidth_1 : Int32, mo_newWidth_1 = (v1 + (1 : Int32)) →
  k31 mo_newFloor mo_newGoals mo_newBoxes t1 mo_newWidth_1 (v1 + (1 : Int32)) v2 (v3 + (1 : Int32)))
def MO_look_317 (mo_size : Int32) (aTM : Nat → Int32) (k31 : Int64 → Int64 → Int64 → Int32 → Int32 → Int32 → Int32 → Int32 → Prop) (post : Int32 → Int64 → Int64 → Int64 → Int32 → Int32 → Prop) (mo_newFloor : Int64) (mo_newGoals : Int64) (mo_newBoxes : Int64) (mo_newPerson : Int32) (mo_newWidth : Int32) (v1 : Int32) (v2 : Int32) (v3 : Int32) (v7 : Int32) (t1 : Int64) : Prop :=
  if v7 = 0 then
  (MO_look_339 mo_size aTM k31 post mo_newFloor mo_newGoals t1 mo_newPerson mo_newWidth v1 v2 v3 mo_newPerson)
  else
  (MO_look_339 mo_size aTM k31 post mo_newFloor mo_newGoals t1 mo_newPerson mo_newWidth v1 v2 v3 (((8 : Int32) * v2) + v1))
def MO_look_294 (mo_size : Int32) (aTM : Nat → Int32) (k31 : Int64 → Int64 → Int64 → Int32 → Int32 → Int32 → Int32 → Int32 → Prop) (post : Int32 → Int64 → Int64 → Int64 → Int32 → Int32 → Prop) (mo_newFloor : Int64) (mo_newGoals : Int64) (mo_newBoxes : Int64) (mo_newPerson : Int32) (mo_newWidth : Int32) (v1 : Int32) (v2 : Int32) (v3 : Int32) (v6 : Int32) (v7 : Int32) (v8 : Int64) (t1 : Int64) : Prop :=
  if v6 = 0 then
  (MO_look_317 mo_size aTM k31 post mo_newFloor t1 mo_newBoxes mo_newPerson mo_newWidth v1 v2 v3 v7 mo_newBoxes)
  else
  (MO_look_317 mo_size aTM k31 post mo_newFloor t1 mo_newBoxes mo_newPerson mo_newWidth v1 v2 v3 v7 (mo_newBoxes ||| v8))
def MO_look_271 (mo_size : Int32) (aTM : Nat → Int32) (k31 : Int64 → Int64 → Int64 → Int32 → Int32 → Int32 → Int32 → Int32 → Prop) (post : Int32 → Int64 → Int64 → Int64 → Int32 → Int32 → Prop) (mo_newFloor : Int64) (mo_newGoals : Int64) (mo_newBoxes : Int64) (mo_newPerson : Int32) (mo_newWidth : Int32) (v1 : Int32) (v2 : Int32) (v3 : Int32) (v5 : Int32) (v6 : Int32) (v7 : Int32) (v8 : Int64) (t1 : Int64) : Prop :=
  if v5 = 0 then
  (MO_look_294 mo_size aTM k31 post t1 mo_newGoals mo_newBoxes mo_newPerson mo_newWidth v1 v2 v3 v6 v7 v8 mo_newGoals)
  else
  (MO_look_294 mo_size aTM k31 post t1 mo_newGoals mo_newBoxes mo_newPerson mo_newWidth v1 v2 v3 v6 v7 v8 (mo_newGoals ||| v8))
def MO_look_239 (mo_size : Int32) (aTM : Nat → Int32) (k31 : Int64 → Int64 → Int64 → Int32 → Int32 → Int32 → Int32 → Int32 → Prop) (post : Int32 → Int64 → Int64 → Int64 → Int32 → Int32 → Prop) (mo_newFloor : Int64) (mo_newGoals : Int64) (mo_newBoxes : Int64) (mo_newPerson : Int32) (mo_newWidth : Int32) (v1 : Int32) (v2 : Int32) (v3 : Int32) (v4 : Int32) (v5 : Int32) (v6 : Int32) (v7 : Int32) : Prop :=
  ∀ v8_1 : Int64, v8_1 = ((1 : Int64) <<< ((((8 : Int32) * v2) + v1).toInt64 &&& 63)) →
  if v4 = (35 : Int32) then
  (MO_look_271 mo_size aTM k31 post mo_newFloor mo_newGoals mo_newBoxes mo_newPerson mo_newWidth v1 v2 v3 v5 v6 v7 v8_1 (mo_newFloor ||| v8_1))
  else
  (MO_look_271 mo_size aTM k31 post mo_newFloor mo_newGoals mo_newBoxes mo_newPerson mo_newWidth v1 v2 v3 v5 v6 v7 v8_1 mo_newFloor)
def MO_look_220 (mo_size : Int32) (aTM : Nat → Int32) (k31 : Int64 → Int64 → Int64 → Int32 → Int32 → Int32 → Int32 → Int32 → Prop) (post : Int32 → Int64 → Int64 → Int64 → Int32 → Int32 → Prop) (mo_newFloor : Int64) (mo_newGoals : Int64) (mo_newBoxes : Int64) (mo_newPerson : Int32) (mo_newWidth : Int32) (v1 : Int32) (v2 : Int32) (v3 : Int32) (v4 : Int32) (v5 : Int32) (v6 : Int32) (v7 : Int32) : Prop :=
  if v6 = 0 then
  (MO_look_239 mo_size aTM k31 post mo_newFloor mo_newGoals mo_newBoxes mo_newPerson mo_newWidth v1 v2 v3 v4 v5 v6 v7)
  else
  (MO_countOf mo_newBoxes (fun r_1 =>
  if r_1 = (12 : Int32) then
  (post v3 mo_newFloor mo_newGoals mo_newBoxes mo_newPerson mo_newWidth)
  else
  (MO_look_239 mo_size aTM k31 post mo_newFloor mo_newGoals mo_newBoxes mo_newPerson mo_newWidth v1 v2 v3 v4 v5 v6 v7)))
def MO_look_203 (mo_size : Int32) (aTM : Nat → Int32) (k31 : Int64 → Int64 → Int64 → Int32 → Int32 → Int32 → Int32 → Int32 → Prop) (post : Int32 → Int64 → Int64 → Int64 → Int32 → Int32 → Prop) (mo_newFloor : Int64) (mo_newGoals : Int64) (mo_newBoxes : Int64) (mo_newPerson : Int32) (mo_newWidth : Int32) (v1 : Int32) (v2 : Int32) (v3 : Int32) (v4 : Int32) (v5 : Int32) (v6 : Int32) (v7 : Int32) : Prop :=
  if v5 = 0 then
  (MO_look_220 mo_size aTM k31 post mo_newFloor mo_newGoals mo_newBoxes mo_newPerson mo_newWidth v1 v2 v3 v4 v5 v6 v7)
  else
  (MO_countOf mo_newGoals (fun r_1 =>
  if r_1 = (12 : Int32) then
  (post v3 mo_newFloor mo_newGoals mo_newBoxes mo_newPerson mo_newWidth)
  else
  (MO_look_220 mo_size aTM k31 post mo_newFloor mo_newGoals mo_newBoxes mo_newPerson mo_newWidth v1 v2 v3 v4 v5 v6 v7)))
def MO_look_185 (mo_size : Int32) (aTM : Nat → Int32) (k31 : Int64 → Int64 → Int64 → Int32 → Int32 → Int32 → Int32 → Int32 → Prop) (post : Int32 → Int64 → Int64 → Int64 → Int32 → Int32 → Prop) (mo_newFloor : Int64) (mo_newGoals : Int64) (mo_newBoxes : Int64) (mo_newPerson : Int32) (mo_newWidth : Int32) (v1 : Int32) (v2 : Int32) (v3 : Int32) (v4 : Int32) (v5 : Int32) (v6 : Int32) (v7 : Int32) : Prop :=
  if v1 = (8 : Int32) then
  (post v3 mo_newFloor mo_newGoals mo_newBoxes mo_newPerson mo_newWidth)
  else
  (if v7 = 0 then
  (MO_look_203 mo_size aTM k31 post mo_newFloor mo_newGoals mo_newBoxes mo_newPerson mo_newWidth v1 v2 v3 v4 v5 v6 v7)
  else
  (if 0 ≤ mo_newPerson then
  (post v3 mo_newFloor mo_newGoals mo_newBoxes mo_newPerson mo_newWidth)
  else
  (MO_look_203 mo_size aTM k31 post mo_newFloor mo_newGoals mo_newBoxes mo_newPerson mo_newWidth v1 v2 v3 v4 v5 v6 v7)))
def MO_look_145 (mo_size : Int32) (aTM : Nat → Int32) (k31 : Int64 → Int64 → Int64 → Int32 → Int32 → Int32 → Int32 → Int32 → Prop) (post : Int32 → Int64 → Int64 → Int64 → Int32 → Int32 → Prop) (mo_newFloor : Int64) (mo_newGoals : Int64) (mo_newBoxes : Int64) (mo_newPerson : Int32) (mo_newWidth : Int32) (v1 : Int32) (v2 : Int32) (v3 : Int32) (v4 : Int32) (v5 : Int32) (v6 : Int32) (t0 : Int32) : Prop :=
  if v5 = 0 then
  (if v6 = 0 then
  (if t0 = 0 then
  (if v4 = (35 : Int32) then
  (MO_look_185 mo_size aTM k31 post mo_newFloor mo_newGoals mo_newBoxes mo_newPerson mo_newWidth v1 v2 v3 v4 v5 v6 t0)
  else
  (if v4 = (32 : Int32) then
  (MO_look_185 mo_size aTM k31 post mo_newFloor mo_newGoals mo_newBoxes mo_newPerson mo_newWidth v1 v2 v3 v4 v5 v6 t0)
  else
  (if v4 = (95 : Int32) then
  (MO_look_185 mo_size aTM k31 post mo_newFloor mo_newGoals mo_newBoxes mo_newPerson mo_newWidth v1 v2 v3 v4 v5 v6 t0)
  else
  (post v3 mo_newFloor mo_newGoals mo_newBoxes mo_newPerson mo_newWidth))))
  else
  (MO_look_185 mo_size aTM k31 post mo_newFloor mo_newGoals mo_newBoxes mo_newPerson mo_newWidth v1 v2 v3 v4 v5 v6 t0))
  else
  (MO_look_185 mo_size aTM k31 post mo_newFloor mo_newGoals mo_newBoxes mo_newPerson mo_newWidth v1 v2 v3 v4 v5 v6 t0))
  else
  (MO_look_185 mo_size aTM k31 post mo_newFloor mo_newGoals mo_newBoxes mo_newPerson mo_newWidth v1 v2 v3 v4 v5 v6 t0)
def MO_look_124 (mo_size : Int32) (aTM : Nat → Int32) (k31 : Int64 → Int64 → Int64 → Int32 → Int32 → Int32 → Int32 → Int32 → Prop) (post : Int32 → Int64 → Int64 → Int64 → Int32 → Int32 → Prop) (mo_newFloor : Int64) (mo_newGoals : Int64) (mo_newBoxes : Int64) (mo_newPerson : Int32) (mo_newWidth : Int32) (v1 : Int32) (v2 : Int32) (v3 : Int32) (v4 : Int32) (v5 : Int32) (t0 : Int32) : Prop :=
  if v4 = (64 : Int32) then
  (MO_look_140 mo_size aTM (fun mo_newFloor' mo_newGoals' mo_newBoxes' mo_newPerson' mo_newWidth' v1' v2' v3' v4' v5' v6' t0' => MO_look_145 mo_size aTM k31 post mo_newFloor' mo_newGoals' mo_newBoxes' mo_newPerson' mo_newWidth' v1' v2' v3' v4' v5' v6' t0') post mo_newFloor mo_newGoals mo_newBoxes mo_newPerson mo_newWidth v1 v2 v3 v4 v5 t0)
  else
  (if v4 = (43 : Int32) then
  (MO_look_140 mo_size aTM (fun mo_newFloor' mo_newGoals' mo_newBoxes' mo_newPerson' mo_newWidth' v1' v2' v3' v4' v5' v6' t0' => MO_look_145 mo_size aTM k31 post mo_newFloor' mo_newGoals' mo_newBoxes' mo_newPerson' mo_newWidth' v1' v2' v3' v4' v5' v6' t0') post mo_newFloor mo_newGoals mo_newBoxes mo_newPerson mo_newWidth v1 v2 v3 v4 v5 t0)
  else
  (MO_look_145 mo_size aTM k31 post mo_newFloor mo_newGoals mo_newBoxes mo_newPerson mo_newWidth v1 v2 v3 v4 v5 t0 (0 : Int32)))
def MO_look_103 (mo_size : Int32) (aTM : Nat → Int32) (k31 : Int64 → Int64 → Int64 → Int32 → Int32 → Int32 → Int32 → Int32 → Prop) (post : Int32 → Int64 → Int64 → Int64 → Int32 → Int32 → Prop) (mo_newFloor : Int64) (mo_newGoals : Int64) (mo_newBoxes : Int64) (mo_newPerson : Int32) (mo_newWidth : Int32) (v1 : Int32) (v2 : Int32) (v3 : Int32) (v4 : Int32) (t0 : Int32) : Prop :=
  if v4 = (36 : Int32) then
  (MO_look_119 mo_size aTM (fun mo_newFloor' mo_newGoals' mo_newBoxes' mo_newPerson' mo_newWidth' v1' v2' v3' v4' v5' t0' => MO_look_124 mo_size aTM k31 post mo_newFloor' mo_newGoals' mo_newBoxes' mo_newPerson' mo_newWidth' v1' v2' v3' v4' v5' t0') post mo_newFloor mo_newGoals mo_newBoxes mo_newPerson mo_newWidth v1 v2 v3 v4 t0)
  else
  (if v4 = (42 : Int32) then
  (MO_look_119 mo_size aTM (fun mo_newFloor' mo_newGoals' mo_newBoxes' mo_newPerson' mo_newWidth' v1' v2' v3' v4' v5' t0' => MO_look_124 mo_size aTM k31 post mo_newFloor' mo_newGoals' mo_newBoxes' mo_newPerson' mo_newWidth' v1' v2' v3' v4' v5' t0') post mo_newFloor mo_newGoals mo_newBoxes mo_newPerson mo_newWidth v1 v2 v3 v4 t0)
  else
  (MO_look_124 mo_size aTM k31 post mo_newFloor mo_newGoals mo_newBoxes mo_newPerson mo_newWidth v1 v2 v3 v4 t0 (0 : Int32)))
def MO_look_69 (mo_size : Int32) (aTM : Nat → Int32) (k31 : Int64 → Int64 → Int64 → Int32 → Int32 → Int32 → Int32 → Int32 → Prop) (post : Int32 → Int64 → Int64 → Int64 → Int32 → Int32 → Prop) (mo_newFloor : Int64) (mo_newGoals : Int64) (mo_newBoxes : Int64) (mo_newPerson : Int32) (mo_newWidth : Int32) (v2 : Int32) (v3 : Int32) : Prop :=
  k31 mo_newFloor mo_newGoals mo_newBoxes mo_newPerson mo_newWidth (0 : Int32) (v2 + (1 : Int32)) (v3 + (1 : Int32))
def MO_look_98 (mo_size : Int32) (aTM : Nat → Int32) (k103 : Int64 → Int64 → Int64 → Int32 → Int32 → Int32 → Int32 → Int32 → Int32 → Int32 → Prop) (post : Int32 → Int64 → Int64 → Int64 → Int32 → Int32 → Prop) (mo_newFloor : Int64) (mo_newGoals : Int64) (mo_newBoxes : Int64) (mo_newPerson : Int32) (mo_newWidth : Int32) (v1 : Int32) (v2 : Int32) (v3 : Int32) (v4 : Int32) : Prop :=
  k103 mo_newFloor mo_newGoals mo_newBoxes mo_newPerson mo_newWidth v1 v2 v3 v4 (1 : Int32)
def MO_look_31 (mo_size : Int32) (aTM : Nat → Int32) (post : Int32 → Int64 → Int64 → Int64 → Int32 → Int32 → Prop) : Nat → Int64 → Int64 → Int64 → Int32 → Int32 → Int32 → Int32 → Int32 → Prop
  | 0, _, _, _, _, _, _, _, _ => False
  | n + 1, mo_newFloor, mo_newGoals, mo_newBoxes, mo_newPerson, mo_newWidth, v1, v2, v3 =>
  if mo_size ≤ v3 then
  (post (-1 : Int32) mo_newFloor mo_newGoals mo_newBoxes mo_newPerson mo_newWidth)
  else
  (vp_in v3 160 ∧
  ∀ v4_1 : Int32, v4_1 = (aTM v3.toNatClampNeg) →
  if v2 = (8 : Int32) then
  (post v3 mo_newFloor mo_newGoals mo_newBoxes mo_newPerson mo_newWidth)
  else
  (if v4_1 = (10 : Int32) then
  (MO_look_69 mo_size aTM (fun mo_newFloor' mo_newGoals' mo_newBoxes' mo_newPerson' mo_newWidth' v1' v2' v3' => MO_look_31 mo_size aTM post n mo_newFloor' mo_newGoals' mo_newBoxes' mo_newPerson' mo_newWidth' v1' v2' v3') post mo_newFloor mo_newGoals mo_newBoxes mo_newPerson mo_newWidth v2 v3)
  else
  (if v4_1 = (124 : Int32) then
  (MO_look_69 mo_size aTM (fun mo_newFloor' mo_newGoals' mo_newBoxes' mo_newPerson' mo_newWidth' v1' v2' v3' => MO_look_31 mo_size aTM post n mo_newFloor' mo_newGoals' mo_newBoxes' mo_newPerson' mo_newWidth' v1' v2' v3') post mo_newFloor mo_newGoals mo_newBoxes mo_newPerson mo_newWidth v2 v3)
  else
  (if v4_1 = (46 : Int32) then
  (MO_look_98 mo_size aTM (fun mo_newFloor' mo_newGoals' mo_newBoxes' mo_newPerson' mo_newWidth' v1' v2' v3' v4' t0' => MO_look_103 mo_size aTM (fun mo_newFloor' mo_newGoals' mo_newBoxes' mo_newPerson' mo_newWidth' v1' v2' v3' => MO_look_31 mo_size aTM post n mo_newFloor' mo_newGoals' mo_newBoxes' mo_newPerson' mo_newWidth' v1' v2' v3') post mo_newFloor' mo_newGoals' mo_newBoxes' mo_newPerson' mo_newWidth' v1' v2' v3' v4' t0') post mo_newFloor mo_newGoals mo_newBoxes mo_newPerson mo_newWidth v1 v2 v3 v4_1)
  else
  (if v4_1 = (42 : Int32) then
  (MO_look_98 mo_size aTM (fun mo_newFloor' mo_newGoals' mo_newBoxes' mo_newPerson' mo_newWidth' v1' v2' v3' v4' t0' => MO_look_103 mo_size aTM (fun mo_newFloor' mo_newGoals' mo_newBoxes' mo_newPerson' mo_newWidth' v1' v2' v3' => MO_look_31 mo_size aTM post n mo_newFloor' mo_newGoals' mo_newBoxes' mo_newPerson' mo_newWidth' v1' v2' v3') post mo_newFloor' mo_newGoals' mo_newBoxes' mo_newPerson' mo_newWidth' v1' v2' v3' v4' t0') post mo_newFloor mo_newGoals mo_newBoxes mo_newPerson mo_newWidth v1 v2 v3 v4_1)
  else
  (if v4_1 = (43 : Int32) then
  (MO_look_98 mo_size aTM (fun mo_newFloor' mo_newGoals' mo_newBoxes' mo_newPerson' mo_newWidth' v1' v2' v3' v4' t0' => MO_look_103 mo_size aTM (fun mo_newFloor' mo_newGoals' mo_newBoxes' mo_newPerson' mo_newWidth' v1' v2' v3' => MO_look_31 mo_size aTM post n mo_newFloor' mo_newGoals' mo_newBoxes' mo_newPerson' mo_newWidth' v1' v2' v3') post mo_newFloor' mo_newGoals' mo_newBoxes' mo_newPerson' mo_newWidth' v1' v2' v3' v4' t0') post mo_newFloor mo_newGoals mo_newBoxes mo_newPerson mo_newWidth v1 v2 v3 v4_1)
  else
  (MO_look_103 mo_size aTM (fun mo_newFloor' mo_newGoals' mo_newBoxes' mo_newPerson' mo_newWidth' v1' v2' v3' => MO_look_31 mo_size aTM post n mo_newFloor' mo_newGoals' mo_newBoxes' mo_newPerson' mo_newWidth' v1' v2' v3') post mo_newFloor mo_newGoals mo_newBoxes mo_newPerson mo_newWidth v1 v2 v3 v4_1 (0 : Int32))))))))
def MO_look (mo_size : Int32) (aTM : Nat → Int32) (mo_newFloor : Int64) (mo_newGoals : Int64) (mo_newBoxes : Int64) (mo_newPerson : Int32) (mo_newWidth : Int32) (post : Int32 → Int64 → Int64 → Int64 → Int32 → Int32 → Prop) : Prop :=
  (∃ n', MO_look_31 mo_size aTM post n' (0 : Int64) (0 : Int64) (0 : Int64) (-1 : Int32) (0 : Int32) (0 : Int32) (0 : Int32) (0 : Int32))
def MO_read_152 (aTM : Nat → Int32) (k141 : Int32 → Int32 → Int32 → Int32 → Int32 → Int32 → Int32 → Int32 → Int64 → Int64 → Int64 → Int64 → Int64 → Int64 → Int32 → Int32 → Int32 → Int32 → Prop) (post : Int32 → Int32 → Int32 → Int32 → Int32 → Int32 → Int32 → Int32 → Int32 → Int64 → Int64 → Int64 → Int64 → Int64 → Int64 → Int32 → Int32 → Int32 → Prop) : Nat → Int32 → Int32 → Int32 → Int32 → Int32 → Int32 → Int32 → Int32 → Int64 → Int64 → Int64 → Int64 → Int64 → Int64 → Int32 → Int32 → Int32 → Int32 → Int32 → Prop
  | 0, _, _, _, _, _, _, _, _, _, _, _, _, _, _, _, _, _, _, _ => False
  | n + 1, mo_thrown, mo_size, mo_isBoard, mo_width, mo_height, mo_person, mo_moves, mo_pushes, mo_floor, mo_goals, mo_boxes, mo_newFloor, mo_newGoals, mo_newBoxes, mo_newPerson, mo_newWidth, mo_kept, v3, v4 =>
  if mo_width ≤ v4 then
  (k141 mo_thrown mo_size mo_isBoard mo_width mo_height mo_person mo_moves mo_pushes mo_floor mo_goals mo_boxes mo_newFloor mo_newGoals mo_newBoxes mo_newPerson mo_newWidth mo_kept (v3 + (1 : Int32)))
  else
  (MO_has mo_newFloor (((8 : Int32) * v3) + v4) (fun r_1 =>
  if r_1 = 0 then
  (∀ mo_floor_2 : Int64, mo_floor_2 = (mo_floor ||| ((1 : Int64) <<< ((((8 : Int32) * v3) + v4).toInt64 &&& 63))) →
  MO_read_152 aTM k141 post n mo_thrown mo_size mo_isBoard mo_width mo_height mo_person mo_moves mo_pushes mo_floor_2 mo_goals mo_boxes mo_newFloor mo_newGoals mo_newBoxes mo_newPerson mo_newWidth mo_kept v3 (v4 + (1 : Int32)))
  else
  (MO_read_152 aTM k141 post n mo_thrown mo_size mo_isBoard mo_width mo_height mo_person mo_moves mo_pushes mo_floor mo_goals mo_boxes mo_newFloor mo_newGoals mo_newBoxes mo_newPerson mo_newWidth mo_kept v3 (v4 + (1 : Int32)))))
def MO_read_141 (aTM : Nat → Int32) (post : Int32 → Int32 → Int32 → Int32 → Int32 → Int32 → Int32 → Int32 → Int32 → Int64 → Int64 → Int64 → Int64 → Int64 → Int64 → Int32 → Int32 → Int32 → Prop) : Nat → Int32 → Int32 → Int32 → Int32 → Int32 → Int32 → Int32 → Int32 → Int64 → Int64 → Int64 → Int64 → Int64 → Int64 → Int32 → Int32 → Int32 → Int32 → Prop
  | 0, _, _, _, _, _, _, _, _, _, _, _, _, _, _, _, _, _, _ => False
  | n + 1, mo_thrown, mo_size, mo_isBoard, mo_width, mo_height, mo_person, mo_moves, mo_pushes, mo_floor, mo_goals, mo_boxes, mo_newFloor, mo_newGoals, mo_newBoxes, mo_newPerson, mo_newWidth, mo_kept, v3 =>
  if mo_height ≤ v3 then
  (MO_countOf mo_newBoxes (fun r_1 =>
  post r_1 mo_thrown mo_size mo_isBoard mo_width mo_height mo_newPerson (0 : Int32) (0 : Int32) mo_floor mo_newGoals mo_newBoxes mo_newFloor mo_newGoals mo_newBoxes mo_newPerson mo_newWidth (0 : Int32)))
  else
  ((∃ n', MO_read_152 aTM (fun mo_thrown' mo_size' mo_isBoard' mo_width' mo_height' mo_person' mo_moves' mo_pushes' mo_floor' mo_goals' mo_boxes' mo_newFloor' mo_newGoals' mo_newBoxes' mo_newPerson' mo_newWidth' mo_kept' v3' => MO_read_141 aTM post n mo_thrown' mo_size' mo_isBoard' mo_width' mo_height' mo_person' mo_moves' mo_pushes' mo_floor' mo_goals' mo_boxes' mo_newFloor' mo_newGoals' mo_newBoxes' mo_newPerson' mo_newWidth' mo_kept' v3') post n' mo_thrown mo_size mo_isBoard mo_width mo_height mo_person mo_moves mo_pushes mo_floor mo_goals mo_boxes mo_newFloor mo_newGoals mo_newBoxes mo_newPerson mo_newWidth mo_kept v3 (0 : Int32)))
def MO_read_55 (aTM : Nat → Int32) (k60 : Int32 → Int32 → Int32 → Int32 → Int32 → Int32 → Int32 → Int32 → Int64 → Int64 → Int64 → Int64 → Int64 → Int64 → Int32 → Int32 → Int32 → Int32 → Int32 → Int32 → Int32 → Prop) (post : Int32 → Int32 → Int32 → Int32 → Int32 → Int32 → Int32 → Int32 → Int32 → Int64 → Int64 → Int64 → Int64 → Int64 → Int64 → Int32 → Int32 → Int32 → Prop) (mo_thrown : Int32) (mo_size : Int32) (mo_isBoard : Int32) (mo_width : Int32) (mo_height : Int32) (mo_person : Int32) (mo_moves : Int32) (mo_pushes : Int32) (mo_floor : Int64) (mo_goals : Int64) (mo_boxes : Int64) (mo_newFloor : Int64) (mo_newGoals : Int64) (mo_newBoxes : Int64) (mo_newPerson : Int32) (mo_newWidth : Int32) (mo_kept : Int32) (v1 : Int32) (v3 : Int32) (t0 : Int32) : Prop :=
  k60 mo_thrown mo_size mo_isBoard mo_width mo_height mo_person mo_moves mo_pushes mo_floor mo_goals mo_boxes mo_newFloor mo_newGoals mo_newBoxes mo_newPerson mo_newWidth mo_kept v1 v3 t0 (1 : Int32)
def MO_read_60 (aTM : Nat → Int32) (k14 : Int32 → Int32 → Int32 → Int32 → Int32 → Int32 → Int32 → Int32 → Int64 → Int64 → Int64 → Int64 → Int64 → Int64 → Int32 → Int32 → Int32 → Int32 → Int32 → Int32 → Prop) (post : Int32 → Int32 → Int32 → Int32 → Int32 → Int32 → Int32 → Int32 → Int32 → Int64 → Int64 → Int64 → Int64 → Int64 → Int64 → Int32 → Int32 → Int32 → Prop) (mo_thrown : Int32) (mo_size : Int32) (mo_isBoard : Int32) (mo_width : Int32) (mo_height : Int32) (mo_person : Int32) (mo_moves : Int32) (mo_pushes : Int32) (mo_floor : Int64) (mo_goals : Int64) (mo_boxes : Int64) (mo_newFloor : Int64) (mo_newGoals : Int64) (mo_newBoxes : Int64) (mo_newPerson : Int32) (mo_newWidth : Int32) (mo_kept : Int32) (v1 : Int32) (v3 : Int32) (t0 : Int32) (t1 : Int32) : Prop :=
  ∀ v2_1 : Int32, v2_1 = (t0 + t1) →
  k14 mo_thrown mo_size mo_isBoard mo_width mo_height mo_person mo_moves mo_pushes mo_floor mo_goals mo_boxes mo_newFloor mo_newGoals mo_newBoxes mo_newPerson mo_newWidth mo_kept v1 v2_1 (v3 + (1 : Int32))
def MO_read_14 (aTM : Nat → Int32) (post : Int32 → Int32 → Int32 → Int32 → Int32 → Int32 → Int32 → Int32 → Int32 → Int64 → Int64 → Int64 → Int64 → Int64 → Int64 → Int32 → Int32 → Int32 → Prop) : Nat → Int32 → Int32 → Int32 → Int32 → Int32 → Int32 → Int32 → Int32 → Int64 → Int64 → Int64 → Int64 → Int64 → Int64 → Int32 → Int32 → Int32 → Int32 → Int32 → Int32 → Prop
  | 0, _, _, _, _, _, _, _, _, _, _, _, _, _, _, _, _, _, _, _, _ => False
  | n + 1, mo_thrown, mo_size, mo_isBoard, mo_width, mo_height, mo_person, mo_moves, mo_pushes, mo_floor, mo_goals, mo_boxes, mo_newFloor, mo_newGoals, mo_newBoxes, mo_newPerson, mo_newWidth, mo_kept, v1, v2, v3 =>
  if mo_size ≤ v3 then
  (if v1 < 0 then
  (if mo_newWidth = 0 then
  (post (-200 : Int32) mo_thrown (0 : Int32) mo_isBoard mo_width mo_height mo_person mo_moves mo_pushes mo_floor mo_goals mo_boxes mo_newFloor mo_newGoals mo_newBoxes mo_newPerson mo_newWidth mo_kept)
  else
  (if mo_newPerson < 0 then
  (post (-200 : Int32) mo_thrown (0 : Int32) mo_isBoard mo_width mo_height mo_person mo_moves mo_pushes mo_floor mo_goals mo_boxes mo_newFloor mo_newGoals mo_newBoxes mo_newPerson mo_newWidth mo_kept)
  else
  (MO_countOf mo_newBoxes (fun r_1 =>
  MO_countOf mo_newGoals (fun r_2 =>
  if r_2 ≤ r_1 then
  ((∃ n', MO_read_141 aTM post n' mo_thrown (0 : Int32) (1 : Int32) mo_newWidth v2 mo_person mo_moves mo_pushes (0 : Int64) mo_goals mo_boxes mo_newFloor mo_newGoals mo_newBoxes mo_newPerson mo_newWidth mo_kept (0 : Int32)))
  else
  (post (-200 : Int32) mo_thrown (0 : Int32) mo_isBoard mo_width mo_height mo_person mo_moves mo_pushes mo_floor mo_goals mo_boxes mo_newFloor mo_newGoals mo_newBoxes mo_newPerson mo_newWidth mo_kept))))))
  else
  (post ((-1 : Int32) - v1) mo_thrown (0 : Int32) mo_isBoard mo_width mo_height mo_person mo_moves mo_pushes mo_floor mo_goals mo_boxes mo_newFloor mo_newGoals mo_newBoxes mo_newPerson mo_newWidth mo_kept))
  else
  (vp_in v3 160 ∧
  if (aTM v3.toNatClampNeg) = (10 : Int32) then
  (MO_read_55 aTM (fun mo_thrown' mo_size' mo_isBoard' mo_width' mo_height' mo_person' mo_moves' mo_pushes' mo_floor' mo_goals' mo_boxes' mo_newFloor' mo_newGoals' mo_newBoxes' mo_newPerson' mo_newWidth' mo_kept' v1' v3' t0' t1' => MO_read_60 aTM (fun mo_thrown' mo_size' mo_isBoard' mo_width' mo_height' mo_person' mo_moves' mo_pushes' mo_floor' mo_goals' mo_boxes' mo_newFloor' mo_newGoals' mo_newBoxes' mo_newPerson' mo_newWidth' mo_kept' v1' v2' v3' => MO_read_14 aTM post n mo_thrown' mo_size' mo_isBoard' mo_width' mo_height' mo_person' mo_moves' mo_pushes' mo_floor' mo_goals' mo_boxes' mo_newFloor' mo_newGoals' mo_newBoxes' mo_newPerson' mo_newWidth' mo_kept' v1' v2' v3') post mo_thrown' mo_size' mo_isBoard' mo_width' mo_height' mo_person' mo_moves' mo_pushes' mo_floor' mo_goals' mo_boxes' mo_newFloor' mo_newGoals' mo_newBoxes' mo_newPerson' mo_newWidth' mo_kept' v1' v3' t0' t1') post mo_thrown mo_size mo_isBoard mo_width mo_height mo_person mo_moves mo_pushes mo_floor mo_goals mo_boxes mo_newFloor mo_newGoals mo_newBoxes mo_newPerson mo_newWidth mo_kept v1 v3 v2)
  else
  (vp_in v3 160 ∧
  if (aTM v3.toNatClampNeg) = (124 : Int32) then
  (MO_read_55 aTM (fun mo_thrown' mo_size' mo_isBoard' mo_width' mo_height' mo_person' mo_moves' mo_pushes' mo_floor' mo_goals' mo_boxes' mo_newFloor' mo_newGoals' mo_newBoxes' mo_newPerson' mo_newWidth' mo_kept' v1' v3' t0' t1' => MO_read_60 aTM (fun mo_thrown' mo_size' mo_isBoard' mo_width' mo_height' mo_person' mo_moves' mo_pushes' mo_floor' mo_goals' mo_boxes' mo_newFloor' mo_newGoals' mo_newBoxes' mo_newPerson' mo_newWidth' mo_kept' v1' v2' v3' => MO_read_14 aTM post n mo_thrown' mo_size' mo_isBoard' mo_width' mo_height' mo_person' mo_moves' mo_pushes' mo_floor' mo_goals' mo_boxes' mo_newFloor' mo_newGoals' mo_newBoxes' mo_newPerson' mo_newWidth' mo_kept' v1' v2' v3') post mo_thrown' mo_size' mo_isBoard' mo_width' mo_height' mo_person' mo_moves' mo_pushes' mo_floor' mo_goals' mo_boxes' mo_newFloor' mo_newGoals' mo_newBoxes' mo_newPerson' mo_newWidth' mo_kept' v1' v3' t0' t1') post mo_thrown mo_size mo_isBoard mo_width mo_height mo_person mo_moves mo_pushes mo_floor mo_goals mo_boxes mo_newFloor mo_newGoals mo_newBoxes mo_newPerson mo_newWidth mo_kept v1 v3 v2)
  else
  (if v3 = (mo_size - (1 : Int32)) then
  (MO_read_55 aTM (fun mo_thrown' mo_size' mo_isBoard' mo_width' mo_height' mo_person' mo_moves' mo_pushes' mo_floor' mo_goals' mo_boxes' mo_newFloor' mo_newGoals' mo_newBoxes' mo_newPerson' mo_newWidth' mo_kept' v1' v3' t0' t1' => MO_read_60 aTM (fun mo_thrown' mo_size' mo_isBoard' mo_width' mo_height' mo_person' mo_moves' mo_pushes' mo_floor' mo_goals' mo_boxes' mo_newFloor' mo_newGoals' mo_newBoxes' mo_newPerson' mo_newWidth' mo_kept' v1' v2' v3' => MO_read_14 aTM post n mo_thrown' mo_size' mo_isBoard' mo_width' mo_height' mo_person' mo_moves' mo_pushes' mo_floor' mo_goals' mo_boxes' mo_newFloor' mo_newGoals' mo_newBoxes' mo_newPerson' mo_newWidth' mo_kept' v1' v2' v3') post mo_thrown' mo_size' mo_isBoard' mo_width' mo_height' mo_person' mo_moves' mo_pushes' mo_floor' mo_goals' mo_boxes' mo_newFloor' mo_newGoals' mo_newBoxes' mo_newPerson' mo_newWidth' mo_kept' v1' v3' t0' t1') post mo_thrown mo_size mo_isBoard mo_width mo_height mo_person mo_moves mo_pushes mo_floor mo_goals mo_boxes mo_newFloor mo_newGoals mo_newBoxes mo_newPerson mo_newWidth mo_kept v1 v3 v2)
  else
  (MO_read_60 aTM (fun mo_thrown' mo_size' mo_isBoard' mo_width' mo_height' mo_person' mo_moves' mo_pushes' mo_floor' mo_goals' mo_boxes' mo_newFloor' mo_newGoals' mo_newBoxes' mo_newPerson' mo_newWidth' mo_kept' v1' v2' v3' => MO_read_14 aTM post n mo_thrown' mo_size' mo_isBoard' mo_width' mo_height' mo_person' mo_moves' mo_pushes' mo_floor' mo_goals' mo_boxes' mo_newFloor' mo_newGoals' mo_newBoxes' mo_newPerson' mo_newWidth' mo_kept' v1' v2' v3') post mo_thrown mo_size mo_isBoard mo_width mo_height mo_person mo_moves mo_pushes mo_floor mo_goals mo_boxes mo_newFloor mo_newGoals mo_newBoxes mo_newPerson mo_newWidth mo_kept v1 v3 v2 (0 : Int32)))))
def MO_read (aTM : Nat → Int32) (mo_thrown : Int32) (mo_size : Int32) (mo_isBoard : Int32) (mo_width : Int32) (mo_height : Int32) (mo_person : Int32) (mo_moves : Int32) (mo_pushes : Int32) (mo_floor : Int64) (mo_goals : Int64) (mo_boxes : Int64) (mo_newFloor : Int64) (mo_newGoals : Int64) (mo_newBoxes : Int64) (mo_newPerson : Int32) (mo_newWidth : Int32) (mo_kept : Int32) (post : Int32 → Int32 → Int32 → Int32 → Int32 → Int32 → Int32 → Int32 → Int32 → Int64 → Int64 → Int64 → Int64 → Int64 → Int64 → Int32 → Int32 → Int32 → Prop) : Prop :=
  MO_look mo_size aTM mo_newFloor mo_newGoals mo_newBoxes mo_newPerson mo_newWidth (fun r_1 mo_newFloor_2 mo_newGoals_3 mo_newBoxes_4 mo_newPerson_5 mo_newWidth_6 =>
  (∃ n', MO_read_14 aTM post n' (0 : Int32) mo_size mo_isBoard mo_width mo_height mo_person mo_moves mo_pushes mo_floor mo_goals mo_boxes mo_newFloor_2 mo_newGoals_3 mo_newBoxes_4 mo_newPerson_5 mo_newWidth_6 mo_kept r_1 (0 : Int32) (0 : Int32)))
def MO_go_133 (mo_width : Int32) (mo_height : Int32) (mo_floor : Int64) (k173 : Int32 → Int32 → Int32 → Int64 → Int32 → (Nat → Int32) → Int32 → Int32 → Prop) (post : Int32 → Int32 → Int32 → Int32 → Int64 → Int32 → (Nat → Int32) → Prop) : Nat → Int32 → Int32 → Int32 → Int64 → Int32 → (Nat → Int32) → Int32 → Int32 → Int32 → Prop
  | 0, _, _, _, _, _, _, _, _, _ => False
  | n + 1, mo_person, mo_moves, mo_pushes, mo_boxes, mo_kept, aDO, v1, v3, v4 =>
  if (500 : Int32) ≤ v4 then
  (∀ mo_kept_1 : Int32, mo_kept_1 = (mo_kept - (1 : Int32)) →
  k173 mo_person mo_moves mo_pushes mo_boxes mo_kept_1 aDO v1 v3)
  else
  (vp_in v4 500 ∧
  ∀ x_2 : Int32, x_2 = (aDO v4.toNatClampNeg) →
  vp_in (v4 - (1 : Int32)) 500 ∧
  ∀ aDO_3 : Nat → Int32, aDO_3 = (upd aDO (v4 - (1 : Int32)).toNatClampNeg x_2) →
  MO_go_133 mo_width mo_height mo_floor k173 post n mo_person mo_moves mo_pushes mo_boxes mo_kept aDO_3 v1 v3 (v4 + (1 : Int32)))
def MO_go_173 (mo_width : Int32) (mo_height : Int32) (mo_floor : Int64) (post : Int32 → Int32 → Int32 → Int32 → Int64 → Int32 → (Nat → Int32) → Prop) (mo_person : Int32) (mo_moves : Int32) (mo_pushes : Int32) (mo_boxes : Int64) (mo_kept : Int32) (aDO : (Nat → Int32)) (v1 : Int32) (v3 : Int32) : Prop :=
  ∀ x_1 : Int32, x_1 = (v1 + ((4 : Int32) * (v3 - (1 : Int32)))) →
  vp_in mo_kept 500 ∧
  ∀ aDO_2 : Nat → Int32, aDO_2 = (upd aDO mo_kept.toNatClampNeg x_1) →
  ∀ mo_kept_3 : Int32, mo_kept_3 = (mo_kept + (1 : Int32)) →
  post v3 mo_person mo_moves mo_pushes mo_boxes mo_kept_3 aDO_2
def MO_go_93 (mo_width : Int32) (mo_height : Int32) (mo_floor : Int64) (post : Int32 → Int32 → Int32 → Int32 → Int64 → Int32 → (Nat → Int32) → Prop) (mo_person : Int32) (mo_moves : Int32) (mo_pushes : Int32) (mo_boxes : Int64) (mo_kept : Int32) (aDO : (Nat → Int32)) (v1 : Int32) (v2 : Int32) (v3 : Int32) : Prop :=
  ∀ mo_moves_1 : Int32, mo_moves_1 = (mo_moves + (1 : Int32)) →
  ∀ mo_pushes_2 : Int32, mo_pushes_2 = (mo_pushes + (v3 - (1 : Int32))) →
  if mo_kept = (500 : Int32) then
  ((∃ n', MO_go_133 mo_width mo_height mo_floor (fun mo_person' mo_moves' mo_pushes' mo_boxes' mo_kept' aDO' v1' v3' => MO_go_173 mo_width mo_height mo_floor post mo_person' mo_moves' mo_pushes' mo_boxes' mo_kept' aDO' v1' v3') post n' v2 mo_moves_1 mo_pushes_2 mo_boxes mo_kept aDO v1 v3 (1 : Int32)))
  else
  (MO_go_173 mo_width mo_height mo_floor post v2 mo_moves_1 mo_pushes_2 mo_boxes mo_kept aDO v1 v3)
def MO_go (mo_width : Int32) (mo_height : Int32) (mo_floor : Int64) (mo_person : Int32) (mo_moves : Int32) (mo_pushes : Int32) (mo_boxes : Int64) (mo_kept : Int32) (aDO : Nat → Int32) (v1 : Int32) (post : Int32 → Int32 → Int32 → Int32 → Int64 → Int32 → (Nat → Int32) → Prop) : Prop :=
  MO_beside mo_width mo_height mo_person v1 (fun r_1 =>
  MO_has mo_floor r_1 (fun r_2 =>
  if r_2 = 0 then
  (post (0 : Int32) mo_person mo_moves mo_pushes mo_boxes mo_kept aDO)
  else
  (MO_has mo_boxes r_1 (fun r_3 =>
  if r_3 = 0 then
  (MO_go_93 mo_width mo_height mo_floor post mo_person mo_moves mo_pushes mo_boxes mo_kept aDO v1 r_1 (1 : Int32))
  else
  (MO_beside mo_width mo_height r_1 v1 (fun r_4 =>
  MO_has mo_floor r_4 (fun r_5 =>
  if r_5 = 0 then
  (post (0 : Int32) mo_person mo_moves mo_pushes mo_boxes mo_kept aDO)
  else
  (MO_has mo_boxes r_4 (fun r_6 =>
  if r_6 = 0 then
  (∀ mo_boxes_7 : Int64, mo_boxes_7 = ((mo_boxes &&& (((1 : Int64) <<< (r_1.toInt64 &&& 63)) ^^^ (-1 : Int64))) ||| ((1 : Int64) <<< (r_4.toInt64 &&& 63))) →
  MO_go_93 mo_width mo_height mo_floor post mo_person mo_moves mo_pushes mo_boxes_7 mo_kept aDO v1 r_1 (2 : Int32))
  else
  (post (0 : Int32) mo_person mo_moves mo_pushes mo_boxes mo_kept aDO))))))))))
def MO_move_31 (mo_isBoard : Int32) (mo_width : Int32) (mo_height : Int32) (mo_floor : Int64) (k36 : Int32 → Int32 → Int32 → Int32 → Int64 → Int32 → (Nat → Int32) → Int32 → Int32 → Int32 → Prop) (post : Int32 → Int32 → Int32 → Int32 → Int32 → Int64 → Int32 → (Nat → Int32) → Prop) (mo_thrown : Int32) (mo_person : Int32) (mo_moves : Int32) (mo_pushes : Int32) (mo_boxes : Int64) (mo_kept : Int32) (aDO : (Nat → Int32)) (v1 : Int32) (t1 : Int32) : Prop :=
  k36 mo_thrown mo_person mo_moves mo_pushes mo_boxes mo_kept aDO v1 t1 (1 : Int32)
def MO_move_36 (mo_isBoard : Int32) (mo_width : Int32) (mo_height : Int32) (mo_floor : Int64) (post : Int32 → Int32 → Int32 → Int32 → Int32 → Int64 → Int32 → (Nat → Int32) → Prop) (mo_thrown : Int32) (mo_person : Int32) (mo_moves : Int32) (mo_pushes : Int32) (mo_boxes : Int64) (mo_kept : Int32) (aDO : (Nat → Int32)) (v1 : Int32) (t1 : Int32) (t2 : Int32) : Prop :=
  MO_throwsIf mo_thrown t1 t2 (fun r_1 mo_thrown_2 =>
  if r_1 = 0 then
  (MO_go mo_width mo_height mo_floor mo_person mo_moves mo_pushes mo_boxes mo_kept aDO v1 (fun r_3 mo_person_4 mo_moves_5 mo_pushes_6 mo_boxes_7 mo_kept_8 aDO_9 =>
  post r_3 mo_thrown_2 mo_person_4 mo_moves_5 mo_pushes_6 mo_boxes_7 mo_kept_8 aDO_9))
  else
  (post (0 : Int32) mo_thrown_2 mo_person mo_moves mo_pushes mo_boxes mo_kept aDO))
def MO_move_14 (mo_isBoard : Int32) (mo_width : Int32) (mo_height : Int32) (mo_floor : Int64) (post : Int32 → Int32 → Int32 → Int32 → Int32 → Int64 → Int32 → (Nat → Int32) → Prop) (mo_thrown : Int32) (mo_person : Int32) (mo_moves : Int32) (mo_pushes : Int32) (mo_boxes : Int64) (mo_kept : Int32) (aDO : (Nat → Int32)) (v1 : Int32) (t1 : Int32) (t2 : Int32) : Prop :=
  MO_throwsIf mo_thrown t1 t2 (fun r_1 mo_thrown_2 =>
  if r_1 = 0 then
  (if v1 < 0 then
  (MO_move_31 mo_isBoard mo_width mo_height mo_floor (fun mo_thrown' mo_person' mo_moves' mo_pushes' mo_boxes' mo_kept' aDO' v1' t1' t2' => MO_move_36 mo_isBoard mo_width mo_height mo_floor post mo_thrown' mo_person' mo_moves' mo_pushes' mo_boxes' mo_kept' aDO' v1' t1' t2') post mo_thrown_2 mo_person mo_moves mo_pushes mo_boxes mo_kept aDO v1 (1 : Int32))
  else
  (if v1 ≤ (3 : Int32) then
  (MO_move_36 mo_isBoard mo_width mo_height mo_floor post mo_thrown_2 mo_person mo_moves mo_pushes mo_boxes mo_kept aDO v1 (1 : Int32) (0 : Int32))
  else
  (MO_move_31 mo_isBoard mo_width mo_height mo_floor (fun mo_thrown' mo_person' mo_moves' mo_pushes' mo_boxes' mo_kept' aDO' v1' t1' t2' => MO_move_36 mo_isBoard mo_width mo_height mo_floor post mo_thrown' mo_person' mo_moves' mo_pushes' mo_boxes' mo_kept' aDO' v1' t1' t2') post mo_thrown_2 mo_person mo_moves mo_pushes mo_boxes mo_kept aDO v1 (1 : Int32))))
  else
  (post (0 : Int32) mo_thrown_2 mo_person mo_moves mo_pushes mo_boxes mo_kept aDO))
def MO_move (mo_isBoard : Int32) (mo_width : Int32) (mo_height : Int32) (mo_floor : Int64) (mo_thrown : Int32) (mo_person : Int32) (mo_moves : Int32) (mo_pushes : Int32) (mo_boxes : Int64) (mo_kept : Int32) (aDO : Nat → Int32) (v1 : Int32) (post : Int32 → Int32 → Int32 → Int32 → Int32 → Int64 → Int32 → (Nat → Int32) → Prop) : Prop :=
  if mo_isBoard = 0 then
  (MO_move_14 mo_isBoard mo_width mo_height mo_floor post mo_thrown mo_person mo_moves mo_pushes mo_boxes mo_kept aDO v1 (2 : Int32) (1 : Int32))
  else
  (MO_move_14 mo_isBoard mo_width mo_height mo_floor post mo_thrown mo_person mo_moves mo_pushes mo_boxes mo_kept aDO v1 (2 : Int32) (0 : Int32))
def MO_undo_133 (mo_width : Int32) (mo_height : Int32) (aDO : Nat → Int32) (post : Int32 → Int32 → Int32 → Int32 → Int32 → Int64 → Int32 → Prop) (mo_thrown : Int32) (mo_person : Int32) (mo_moves : Int32) (mo_pushes : Int32) (mo_boxes : Int64) (mo_kept : Int32) (v2 : Int32) (t1 : Int32) (t2 : Int32) : Prop :=
  ∀ mo_pushes_1 : Int32, mo_pushes_1 = (t1 - t2) →
  if v2 = 0 then
  (post (1 : Int32) mo_thrown mo_person mo_moves mo_pushes_1 mo_boxes mo_kept)
  else
  (post (2 : Int32) mo_thrown mo_person mo_moves mo_pushes_1 mo_boxes mo_kept)
def MO_undo_92 (mo_width : Int32) (mo_height : Int32) (aDO : Nat → Int32) (post : Int32 → Int32 → Int32 → Int32 → Int32 → Int64 → Int32 → Prop) (mo_thrown : Int32) (mo_person : Int32) (mo_moves : Int32) (mo_pushes : Int32) (mo_boxes : Int64) (mo_kept : Int32) (v1 : Int32) (v2 : Int32) : Prop :=
  MO_against v1 (fun r_1 =>
  MO_beside mo_width mo_height mo_person r_1 (fun r_2 =>
  ∀ mo_moves_3 : Int32, mo_moves_3 = (mo_moves - (1 : Int32)) →
  if v2 = 0 then
  (MO_undo_133 mo_width mo_height aDO post mo_thrown r_2 mo_moves_3 mo_pushes mo_boxes mo_kept v2 mo_pushes (0 : Int32))
  else
  (MO_undo_133 mo_width mo_height aDO post mo_thrown r_2 mo_moves_3 mo_pushes mo_boxes mo_kept v2 mo_pushes (1 : Int32))))
def MO_undo_54 (mo_width : Int32) (mo_height : Int32) (aDO : Nat → Int32) (post : Int32 → Int32 → Int32 → Int32 → Int32 → Int64 → Int32 → Prop) (mo_thrown : Int32) (mo_person : Int32) (mo_moves : Int32) (mo_pushes : Int32) (mo_boxes : Int64) (mo_kept : Int32) (v1 : Int32) (t0 : Int32) : Prop :=
  if t0 = 0 then
  (MO_undo_92 mo_width mo_height aDO post mo_thrown mo_person mo_moves mo_pushes mo_boxes mo_kept v1 t0)
  else
  (MO_beside mo_width mo_height mo_person v1 (fun r_1 =>
  ∀ mo_boxes_2 : Int64, mo_boxes_2 = ((mo_boxes &&& (((1 : Int64) <<< (r_1.toInt64 &&& 63)) ^^^ (-1 : Int64))) ||| ((1 : Int64) <<< (mo_person.toInt64 &&& 63))) →
  MO_undo_92 mo_width mo_height aDO post mo_thrown mo_person mo_moves mo_pushes mo_boxes_2 mo_kept v1 t0))
def MO_undo (mo_width : Int32) (mo_height : Int32) (aDO : Nat → Int32) (mo_thrown : Int32) (mo_person : Int32) (mo_moves : Int32) (mo_pushes : Int32) (mo_boxes : Int64) (mo_kept : Int32) (post : Int32 → Int32 → Int32 → Int32 → Int32 → Int64 → Int32 → Prop) : Prop :=
  if mo_kept = 0 then
  (post (0 : Int32) (0 : Int32) mo_person mo_moves mo_pushes mo_boxes mo_kept)
  else
  (∀ mo_kept_1 : Int32, mo_kept_1 = (mo_kept - (1 : Int32)) →
  vp_in mo_kept_1 500 ∧
  ∀ v1_2 : Int32, v1_2 = ((aDO mo_kept_1.toNatClampNeg) - (aDO mo_kept_1.toNatClampNeg) / (4 : Int32) * (4 : Int32)) →
  vp_in mo_kept_1 500 ∧
  if (aDO mo_kept_1.toNatClampNeg) ≤ (3 : Int32) then
  (MO_undo_54 mo_width mo_height aDO post (0 : Int32) mo_person mo_moves mo_pushes mo_boxes mo_kept_1 v1_2 (0 : Int32))
  else
  (MO_undo_54 mo_width mo_height aDO post (0 : Int32) mo_person mo_moves mo_pushes mo_boxes mo_kept_1 v1_2 (1 : Int32)))
def MO_wayOf (v0 : Int32) (post : Int32 → Prop) : Prop :=
  if v0 = (68 : Int32) then
  (post (1 : Int32))
  else
  (if v0 = (76 : Int32) then
  (post (2 : Int32))
  else
  (if v0 = (82 : Int32) then
  (post (0 : Int32))
  else
  (if v0 = (85 : Int32) then
  (post (3 : Int32))
  else
  (if v0 = (100 : Int32) then
  (post (1 : Int32))
  else
  (if v0 = (108 : Int32) then
  (post (2 : Int32))
  else
  (if v0 = (114 : Int32) then
  (post (0 : Int32))
  else
  (if v0 = (117 : Int32) then
  (post (3 : Int32))
  else
  (post (-1 : Int32)))))))))
def MO_row_95 (mo_isBoard : Int32) (mo_width : Int32) (mo_height : Int32) (mo_floor : Int64) (aTM : Nat → Int32) (k84 : Int32 → Int32 → Int32 → Int32 → Int32 → Int64 → Int32 → (Nat → Int32) → Int32 → Int32 → Int32 → Int32 → Int32 → Int32 → Prop) (post : Int32 → Int32 → Int32 → Int32 → Int32 → Int32 → Int64 → Int32 → (Nat → Int32) → Prop) (mo_thrown : Int32) (mo_size : Int32) (mo_person : Int32) (mo_moves : Int32) (mo_pushes : Int32) (mo_boxes : Int64) (mo_kept : Int32) (aDO : (Nat → Int32)) (v1 : Int32) (v2 : Int32) (v3 : Int32) (v4 : Int32) (v6 : Int32) (v7 : Int32) : Prop :=
  if mo_isBoard = 0 then
  (post ((-1 : Int32) - v4) mo_thrown mo_size mo_person mo_moves mo_pushes mo_boxes mo_kept aDO)
  else
  (MO_go mo_width mo_height mo_floor mo_person mo_moves mo_pushes mo_boxes mo_kept aDO v6 (fun r_1 mo_person_2 mo_moves_3 mo_pushes_4 mo_boxes_5 mo_kept_6 aDO_7 =>
  if r_1 = 0 then
  (post ((-1 : Int32) - v4) mo_thrown mo_size mo_person_2 mo_moves_3 mo_pushes_4 mo_boxes_5 mo_kept_6 aDO_7)
  else
  (k84 mo_thrown mo_size mo_person_2 mo_moves_3 mo_pushes_4 mo_boxes_5 mo_kept_6 aDO_7 v1 v2 (v3 + (1 : Int32)) v4 v6 (v7 + (1 : Int32)))))
def MO_row_84 (mo_isBoard : Int32) (mo_width : Int32) (mo_height : Int32) (mo_floor : Int64) (aTM : Nat → Int32) (k22 : Int32 → Int32 → Int32 → Int32 → Int32 → Int64 → Int32 → (Nat → Int32) → Int32 → Int32 → Int32 → Int32 → Prop) (post : Int32 → Int32 → Int32 → Int32 → Int32 → Int32 → Int64 → Int32 → (Nat → Int32) → Prop) : Nat → Int32 → Int32 → Int32 → Int32 → Int32 → Int64 → Int32 → (Nat → Int32) → Int32 → Int32 → Int32 → Int32 → Int32 → Int32 → Prop
  | 0, _, _, _, _, _, _, _, _, _, _, _, _, _, _ => False
  | n + 1, mo_thrown, mo_size, mo_person, mo_moves, mo_pushes, mo_boxes, mo_kept, aDO, v1, v2, v3, v4, v6, v7 =>
  if v7 < v2 then
  (MO_row_95 mo_isBoard mo_width mo_height mo_floor aTM (fun mo_thrown' mo_size' mo_person' mo_moves' mo_pushes' mo_boxes' mo_kept' aDO' v1' v2' v3' v4' v6' v7' => MO_row_84 mo_isBoard mo_width mo_height mo_floor aTM k22 post n mo_thrown' mo_size' mo_person' mo_moves' mo_pushes' mo_boxes' mo_kept' aDO' v1' v2' v3' v4' v6' v7') post mo_thrown mo_size mo_person mo_moves mo_pushes mo_boxes mo_kept aDO v1 v2 v3 v4 v6 v7)
  else
  (if v7 = 0 then
  (MO_row_95 mo_isBoard mo_width mo_height mo_floor aTM (fun mo_thrown' mo_size' mo_person' mo_moves' mo_pushes' mo_boxes' mo_kept' aDO' v1' v2' v3' v4' v6' v7' => MO_row_84 mo_isBoard mo_width mo_height mo_floor aTM k22 post n mo_thrown' mo_size' mo_person' mo_moves' mo_pushes' mo_boxes' mo_kept' aDO' v1' v2' v3' v4' v6' v7') post mo_thrown mo_size mo_person mo_moves mo_pushes mo_boxes mo_kept aDO v1 v2 v3 v4 v6 v7)
  else
  (k22 mo_thrown mo_size mo_person mo_moves mo_pushes mo_boxes mo_kept aDO v1 (0 : Int32) v3 (v4 + (1 : Int32))))
def MO_row_64 (mo_isBoard : Int32) (mo_width : Int32) (mo_height : Int32) (mo_floor : Int64) (aTM : Nat → Int32) (k22 : Int32 → Int32 → Int32 → Int32 → Int32 → Int64 → Int32 → (Nat → Int32) → Int32 → Int32 → Int32 → Int32 → Prop) (post : Int32 → Int32 → Int32 → Int32 → Int32 → Int32 → Int64 → Int32 → (Nat → Int32) → Prop) (mo_thrown : Int32) (mo_size : Int32) (mo_person : Int32) (mo_moves : Int32) (mo_pushes : Int32) (mo_boxes : Int64) (mo_kept : Int32) (aDO : (Nat → Int32)) (v1 : Int32) (v2 : Int32) (v3 : Int32) (v4 : Int32) (v5 : Int32) : Prop :=
  MO_wayOf v5 (fun r_1 =>
  if 0 ≤ r_1 then
  ((∃ n', MO_row_84 mo_isBoard mo_width mo_height mo_floor aTM k22 post n' mo_thrown mo_size mo_person mo_moves mo_pushes mo_boxes mo_kept aDO v1 v2 v3 v4 r_1 (0 : Int32)))
  else
  (post ((-1 : Int32) - v4) mo_thrown mo_size mo_person mo_moves mo_pushes mo_boxes mo_kept aDO))
def MO_row_22 (mo_isBoard : Int32) (mo_width : Int32) (mo_height : Int32) (mo_floor : Int64) (aTM : Nat → Int32) (post : Int32 → Int32 → Int32 → Int32 → Int32 → Int32 → Int64 → Int32 → (Nat → Int32) → Prop) : Nat → Int32 → Int32 → Int32 → Int32 → Int32 → Int64 → Int32 → (Nat → Int32) → Int32 → Int32 → Int32 → Int32 → Prop
  | 0, _, _, _, _, _, _, _, _, _, _, _, _ => False
  | n + 1, mo_thrown, mo_size, mo_person, mo_moves, mo_pushes, mo_boxes, mo_kept, aDO, v1, v2, v3, v4 =>
  if v1 ≤ v4 then
  (if v2 ≤ 0 then
  (post v3 mo_thrown mo_size mo_person mo_moves mo_pushes mo_boxes mo_kept aDO)
  else
  (post ((-1 : Int32) - v1) mo_thrown mo_size mo_person mo_moves mo_pushes mo_boxes mo_kept aDO))
  else
  (vp_in v4 160 ∧
  ∀ v5_1 : Int32, v5_1 = (aTM v4.toNatClampNeg) →
  if v2 = 0 then
  (if v5_1 < (50 : Int32) then
  (MO_row_64 mo_isBoard mo_width mo_height mo_floor aTM (fun mo_thrown' mo_size' mo_person' mo_moves' mo_pushes' mo_boxes' mo_kept' aDO' v1' v2' v3' v4' => MO_row_22 mo_isBoard mo_width mo_height mo_floor aTM post n mo_thrown' mo_size' mo_person' mo_moves' mo_pushes' mo_boxes' mo_kept' aDO' v1' v2' v3' v4') post mo_thrown mo_size mo_person mo_moves mo_pushes mo_boxes mo_kept aDO v1 v2 v3 v4 v5_1)
  else
  (if (57 : Int32) < v5_1 then
  (MO_row_64 mo_isBoard mo_width mo_height mo_floor aTM (fun mo_thrown' mo_size' mo_person' mo_moves' mo_pushes' mo_boxes' mo_kept' aDO' v1' v2' v3' v4' => MO_row_22 mo_isBoard mo_width mo_height mo_floor aTM post n mo_thrown' mo_size' mo_person' mo_moves' mo_pushes' mo_boxes' mo_kept' aDO' v1' v2' v3' v4') post mo_thrown mo_size mo_person mo_moves mo_pushes mo_boxes mo_kept aDO v1 v2 v3 v4 v5_1)
  else
  (∀ v2_2 : Int32, v2_2 = (v5_1 - (48 : Int32)) →
  MO_row_22 mo_isBoard mo_width mo_height mo_floor aTM post n mo_thrown mo_size mo_person mo_moves mo_pushes mo_boxes mo_kept aDO v1 v2_2 v3 (v4 + (1 : Int32)))))
  else
  (MO_row_64 mo_isBoard mo_width mo_height mo_floor aTM (fun mo_thrown' mo_size' mo_person' mo_moves' mo_pushes' mo_boxes' mo_kept' aDO' v1' v2' v3' v4' => MO_row_22 mo_isBoard mo_width mo_height mo_floor aTM post n mo_thrown' mo_size' mo_person' mo_moves' mo_pushes' mo_boxes' mo_kept' aDO' v1' v2' v3' v4') post mo_thrown mo_size mo_person mo_moves mo_pushes mo_boxes mo_kept aDO v1 v2 v3 v4 v5_1))
def MO_row (mo_isBoard : Int32) (mo_width : Int32) (mo_height : Int32) (mo_floor : Int64) (aTM : Nat → Int32) (mo_thrown : Int32) (mo_size : Int32) (mo_person : Int32) (mo_moves : Int32) (mo_pushes : Int32) (mo_boxes : Int64) (mo_kept : Int32) (aDO : Nat → Int32) (post : Int32 → Int32 → Int32 → Int32 → Int32 → Int32 → Int64 → Int32 → (Nat → Int32) → Prop) : Prop :=
  (∃ n', MO_row_22 mo_isBoard mo_width mo_height mo_floor aTM post n' (0 : Int32) (0 : Int32) mo_person mo_moves mo_pushes mo_boxes mo_kept aDO mo_size (0 : Int32) (0 : Int32) (0 : Int32))
def MO_isDone (mo_goals : Int64) (v1 : Int64) (post : Int32 → Prop) : Prop :=
  if (mo_goals &&& (v1 ^^^ (-1 : Int64))) = (0 : Int64) then
  (post (1 : Int32))
  else
  (post (0 : Int32))
def MO_told (mo_isBoard : Int32) (mo_width : Int32) (mo_height : Int32) (mo_person : Int32) (mo_moves : Int32) (mo_pushes : Int32) (mo_goals : Int64) (mo_boxes : Int64) (mo_thrown : Int32) (v1 : Int32) (post : Int32 → Int32 → Prop) : Prop :=
  if v1 = (0 : Int32) then
  (post mo_width (0 : Int32))
  else
  (if v1 = (1 : Int32) then
  (post mo_height (0 : Int32))
  else
  (if v1 = (2 : Int32) then
  (MO_countOf mo_boxes (fun r_1 =>
  post r_1 (0 : Int32)))
  else
  (if v1 = (3 : Int32) then
  (MO_countOf mo_goals (fun r_2 =>
  post r_2 (0 : Int32)))
  else
  (if v1 = (4 : Int32) then
  (MO_countOf (mo_boxes &&& mo_goals) (fun r_3 =>
  post r_3 (0 : Int32)))
  else
  (if v1 = (5 : Int32) then
  (post mo_moves (0 : Int32))
  else
  (if v1 = (6 : Int32) then
  (post mo_pushes (0 : Int32))
  else
  (if v1 = (7 : Int32) then
  (if mo_isBoard = 0 then
  (post (-1 : Int32) (0 : Int32))
  else
  (MO_number mo_width mo_person (fun r_4 =>
  post r_4 (0 : Int32))))
  else
  (if v1 = (8 : Int32) then
  (if mo_isBoard = 0 then
  (post (0 : Int32) (0 : Int32))
  else
  (MO_isDone mo_goals mo_boxes (fun r_5 =>
  if r_5 = 0 then
  (post (0 : Int32) (0 : Int32))
  else
  (post (1 : Int32) (0 : Int32)))))
  else
  (post (-1 : Int32) (0 : Int32))))))))))
def MO_picture (mo_width : Int32) (mo_height : Int32) (mo_person : Int32) (mo_floor : Int64) (mo_goals : Int64) (mo_boxes : Int64) (mo_thrown : Int32) (v1 : Int32) (post : Int32 → Int32 → Prop) : Prop :=
  if v1 < 0 then
  (post (-1 : Int32) (0 : Int32))
  else
  (if v1 < ((mo_width + (1 : Int32)) * mo_height) then
  (¬ (mo_width + (1 : Int32)) = 0 ∧
  ∀ v2_1 : Int32, v2_1 = (v1 - v1 / (mo_width + (1 : Int32)) * (mo_width + (1 : Int32))) →
  if v2_1 = mo_width then
  (post (10 : Int32) (0 : Int32))
  else
  (¬ (mo_width + (1 : Int32)) = 0 ∧
  ∀ v3_2 : Int32, v3_2 = (((8 : Int32) * (v1 / (mo_width + (1 : Int32)))) + v2_1) →
  MO_has mo_floor v3_2 (fun r_3 =>
  if r_3 = 0 then
  (post (35 : Int32) (0 : Int32))
  else
  (MO_has mo_boxes v3_2 (fun r_4 =>
  if r_4 = 0 then
  (if v3_2 = mo_person then
  (MO_has mo_goals v3_2 (fun r_6 =>
  if r_6 = 0 then
  (post (64 : Int32) (0 : Int32))
  else
  (post (43 : Int32) (0 : Int32))))
  else
  (MO_has mo_goals v3_2 (fun r_5 =>
  if r_5 = 0 then
  (post (32 : Int32) (0 : Int32))
  else
  (post (46 : Int32) (0 : Int32)))))
  else
  (MO_has mo_goals v3_2 (fun r_7 =>
  if r_7 = 0 then
  (post (36 : Int32) (0 : Int32))
  else
  (post (42 : Int32) (0 : Int32)))))))))
  else
  (post (-1 : Int32) (0 : Int32)))
def MO_letter_59 (mo_kept : Int32) (aDO : Nat → Int32) (post : Int32 → Int32 → Prop) (mo_thrown : Int32) (v1 : Int32) (t0 : Int32) : Prop :=
  vp_in v1 500 ∧
  if (aDO v1.toNatClampNeg) ≤ (3 : Int32) then
  (post t0 mo_thrown)
  else
  (post (t0 - (32 : Int32)) mo_thrown)
def MO_letter (mo_kept : Int32) (aDO : Nat → Int32) (mo_thrown : Int32) (v1 : Int32) (post : Int32 → Int32 → Prop) : Prop :=
  if v1 < 0 then
  (post (-1 : Int32) (0 : Int32))
  else
  (if v1 < mo_kept then
  (vp_in v1 500 ∧
  ∀ v2_1 : Int32, v2_1 = ((aDO v1.toNatClampNeg) - (aDO v1.toNatClampNeg) / (4 : Int32) * (4 : Int32)) →
  if v2_1 = 0 then
  (MO_letter_59 mo_kept aDO post (0 : Int32) v1 (114 : Int32))
  else
  (if v2_1 = (1 : Int32) then
  (MO_letter_59 mo_kept aDO post (0 : Int32) v1 (100 : Int32))
  else
  (if v2_1 = (2 : Int32) then
  (MO_letter_59 mo_kept aDO post (0 : Int32) v1 (108 : Int32))
  else
  (MO_letter_59 mo_kept aDO post (0 : Int32) v1 (117 : Int32)))))
  else
  (post (-1 : Int32) (0 : Int32)))
def MO_reachOf_67 (mo_width : Int32) (mo_height : Int32) (mo_floor : Int64) (k23 : Int64 → Int64 → Int64 → Int32 → Prop) (post : Int64 → Prop) : Nat → Int64 → Int64 → Int64 → Int32 → Int32 → Prop
  | 0, _, _, _, _, _ => False
  | n + 1, v2, v4, v6, v8, v9 =>
  if (4 : Int32) ≤ v9 then
  (k23 v2 v4 v6 (v8 + (1 : Int32)))
  else
  (MO_beside mo_width mo_height v8 v9 (fun r_1 =>
  MO_has v4 r_1 (fun r_2 =>
  if r_2 = 0 then
  (MO_reachOf_67 mo_width mo_height mo_floor k23 post n v2 v4 v6 v8 (v9 + (1 : Int32)))
  else
  (∀ v4_3 : Int64, v4_3 = (v4 ||| ((1 : Int64) <<< (v8.toInt64 &&& 63))) →
  MO_reachOf_67 mo_width mo_height mo_floor k23 post n v2 v4_3 v6 v8 (v9 + (1 : Int32))))))
def MO_reachOf_23 (mo_width : Int32) (mo_height : Int32) (mo_floor : Int64) (k8 : Int64 → Int64 → Int64 → Prop) (post : Int64 → Prop) : Nat → Int64 → Int64 → Int64 → Int32 → Prop
  | 0, _, _, _, _ => False
  | n + 1, v2, v4, v6, v8 =>
  if (64 : Int32) ≤ v8 then
  (k8 v2 v4 v6)
  else
  (MO_has mo_floor v8 (fun r_1 =>
  if r_1 = 0 then
  (MO_reachOf_23 mo_width mo_height mo_floor k8 post n v2 v4 v6 (v8 + (1 : Int32)))
  else
  (MO_has v2 v8 (fun r_2 =>
  if r_2 = 0 then
  (MO_has v4 v8 (fun r_3 =>
  if r_3 = 0 then
  ((∃ n', MO_reachOf_67 mo_width mo_height mo_floor (fun v2' v4' v6' v8' => MO_reachOf_23 mo_width mo_height mo_floor k8 post n v2' v4' v6' v8') post n' v2 v4 v6 v8 (0 : Int32)))
  else
  (MO_reachOf_23 mo_width mo_height mo_floor k8 post n v2 v4 v6 (v8 + (1 : Int32)))))
  else
  (MO_reachOf_23 mo_width mo_height mo_floor k8 post n v2 v4 v6 (v8 + (1 : Int32)))))))
def MO_reachOf_8 (mo_width : Int32) (mo_height : Int32) (mo_floor : Int64) (post : Int64 → Prop) : Nat → Int64 → Int64 → Int64 → Prop
  | 0, _, _, _ => False
  | n + 1, v2, v4, v6 =>
  if v4 = v6 then
  (post v4)
  else
  ((∃ n', MO_reachOf_23 mo_width mo_height mo_floor (fun v2' v4' v6' => MO_reachOf_8 mo_width mo_height mo_floor post n v2' v4' v6') post n' v2 v4 v4 (0 : Int32)))
def MO_reachOf (mo_width : Int32) (mo_height : Int32) (mo_floor : Int64) (v1 : Int32) (v2 : Int64) (post : Int64 → Prop) : Prop :=
  ∀ v4_1 : Int64, v4_1 = ((1 : Int64) <<< (v1.toInt64 &&& 63)) →
  (∃ n', MO_reachOf_8 mo_width mo_height mo_floor post n' v2 v4_1 (0 : Int64))
def MO_reach (mo_isBoard : Int32) (mo_width : Int32) (mo_height : Int32) (mo_person : Int32) (mo_floor : Int64) (mo_boxes : Int64) (mo_thrown : Int32) (post : Int32 → Int32 → Prop) : Prop :=
  if mo_isBoard = 0 then
  (post (0 : Int32) (0 : Int32))
  else
  (MO_reachOf mo_width mo_height mo_floor mo_person mo_boxes (fun r_1 =>
  MO_countOf r_1 (fun r_2 =>
  post r_2 (0 : Int32))))
def MO_way_115 (mo_width : Int32) (mo_height : Int32) (mo_person : Int32) (mo_floor : Int64) (mo_boxes : Int64) (k68 : Int32 → (Nat → Int32) → Int32 → Int32 → Int32 → Int32 → Prop) (post : Int32 → Int32 → (Nat → Int32) → Prop) : Nat → Int32 → (Nat → Int32) → Int32 → Int32 → Int32 → Int32 → Int32 → Prop
  | 0, _, _, _, _, _, _, _ => False
  | n + 1, mo_thrown, aFA, v1, v2, v3, v4, v5 =>
  if (4 : Int32) ≤ v5 then
  (k68 mo_thrown aFA v1 v2 v3 (v4 + (1 : Int32)))
  else
  (MO_beside mo_width mo_height v4 v5 (fun r_1 =>
  if r_1 < 0 then
  (MO_way_115 mo_width mo_height mo_person mo_floor mo_boxes k68 post n mo_thrown aFA v1 v2 v3 v4 (v5 + (1 : Int32)))
  else
  (MO_beside mo_width mo_height v4 v5 (fun r_2 =>
  vp_in r_2 64 ∧
  if (aFA r_2.toNatClampNeg) = v3 then
  (∀ x_3 : Int32, x_3 = (v3 + (1 : Int32)) →
  vp_in v4 64 ∧
  ∀ aFA_4 : Nat → Int32, aFA_4 = (upd aFA v4.toNatClampNeg x_3) →
  MO_way_115 mo_width mo_height mo_person mo_floor mo_boxes k68 post n mo_thrown aFA_4 v1 v2 v3 v4 (v5 + (1 : Int32)))
  else
  (MO_way_115 mo_width mo_height mo_person mo_floor mo_boxes k68 post n mo_thrown aFA v1 v2 v3 v4 (v5 + (1 : Int32)))))))
def MO_way_68 (mo_width : Int32) (mo_height : Int32) (mo_person : Int32) (mo_floor : Int64) (mo_boxes : Int64) (k59 : Int32 → (Nat → Int32) → Int32 → Int32 → Int32 → Prop) (post : Int32 → Int32 → (Nat → Int32) → Prop) : Nat → Int32 → (Nat → Int32) → Int32 → Int32 → Int32 → Int32 → Prop
  | 0, _, _, _, _, _, _ => False
  | n + 1, mo_thrown, aFA, v1, v2, v3, v4 =>
  if (64 : Int32) ≤ v4 then
  (k59 mo_thrown aFA v1 v2 (v3 + (1 : Int32)))
  else
  (MO_has mo_floor v4 (fun r_1 =>
  if r_1 = 0 then
  (MO_way_68 mo_width mo_height mo_person mo_floor mo_boxes k59 post n mo_thrown aFA v1 v2 v3 (v4 + (1 : Int32)))
  else
  (MO_has mo_boxes v4 (fun r_2 =>
  if r_2 = 0 then
  (vp_in v4 64 ∧
  if (aFA v4.toNatClampNeg) < 0 then
  ((∃ n', MO_way_115 mo_width mo_height mo_person mo_floor mo_boxes (fun mo_thrown' aFA' v1' v2' v3' v4' => MO_way_68 mo_width mo_height mo_person mo_floor mo_boxes k59 post n mo_thrown' aFA' v1' v2' v3' v4') post n' mo_thrown aFA v1 v2 v3 v4 (0 : Int32)))
  else
  (MO_way_68 mo_width mo_height mo_person mo_floor mo_boxes k59 post n mo_thrown aFA v1 v2 v3 (v4 + (1 : Int32))))
  else
  (MO_way_68 mo_width mo_height mo_person mo_floor mo_boxes k59 post n mo_thrown aFA v1 v2 v3 (v4 + (1 : Int32)))))))
def MO_way_59 (mo_width : Int32) (mo_height : Int32) (mo_person : Int32) (mo_floor : Int64) (mo_boxes : Int64) (post : Int32 → Int32 → (Nat → Int32) → Prop) : Nat → Int32 → (Nat → Int32) → Int32 → Int32 → Int32 → Prop
  | 0, _, _, _, _, _ => False
  | n + 1, mo_thrown, aFA, v1, v2, v3 =>
  if (64 : Int32) ≤ v3 then
  (vp_in (((8 : Int32) * v2) + v1) 64 ∧
  post (aFA (((8 : Int32) * v2) + v1).toNatClampNeg) mo_thrown aFA)
  else
  ((∃ n', MO_way_68 mo_width mo_height mo_person mo_floor mo_boxes (fun mo_thrown' aFA' v1' v2' v3' => MO_way_59 mo_width mo_height mo_person mo_floor mo_boxes post n mo_thrown' aFA' v1' v2' v3') post n' mo_thrown aFA v1 v2 v3 (0 : Int32)))
def MO_way_26 (mo_width : Int32) (mo_height : Int32) (mo_person : Int32) (mo_floor : Int64) (mo_boxes : Int64) (post : Int32 → Int32 → (Nat → Int32) → Prop) : Nat → Int32 → (Nat → Int32) → Int32 → Int32 → Int32 → Prop
  | 0, _, _, _, _, _ => False
  | n + 1, mo_thrown, aFA, v1, v2, v3 =>
  if (64 : Int32) ≤ v3 then
  ((∃ n', MO_way_59 mo_width mo_height mo_person mo_floor mo_boxes post n' mo_thrown aFA v1 v2 (0 : Int32)))
  else
  (if v3 = mo_person then
  (vp_in v3 64 ∧
  ∀ aFA_2 : Nat → Int32, aFA_2 = (upd aFA v3.toNatClampNeg (0 : Int32)) →
  MO_way_26 mo_width mo_height mo_person mo_floor mo_boxes post n mo_thrown aFA_2 v1 v2 (v3 + (1 : Int32)))
  else
  (vp_in v3 64 ∧
  ∀ aFA_1 : Nat → Int32, aFA_1 = (upd aFA v3.toNatClampNeg (-1 : Int32)) →
  MO_way_26 mo_width mo_height mo_person mo_floor mo_boxes post n mo_thrown aFA_1 v1 v2 (v3 + (1 : Int32))))
def MO_way_16 (mo_width : Int32) (mo_height : Int32) (mo_person : Int32) (mo_floor : Int64) (mo_boxes : Int64) (post : Int32 → Int32 → (Nat → Int32) → Prop) (mo_thrown : Int32) (aFA : (Nat → Int32)) (v1 : Int32) (v2 : Int32) (t1 : Int32) (t2 : Int32) : Prop :=
  MO_throwsIf mo_thrown t1 t2 (fun r_1 mo_thrown_2 =>
  if r_1 = 0 then
  ((∃ n', MO_way_26 mo_width mo_height mo_person mo_floor mo_boxes post n' mo_thrown_2 aFA v1 v2 (0 : Int32)))
  else
  (post (0 : Int32) mo_thrown_2 aFA))
def MO_way (mo_width : Int32) (mo_height : Int32) (mo_person : Int32) (mo_floor : Int64) (mo_boxes : Int64) (mo_thrown : Int32) (aFA : Nat → Int32) (v1 : Int32) (v2 : Int32) (post : Int32 → Int32 → (Nat → Int32) → Prop) : Prop :=
  MO_isCell mo_width mo_height v1 v2 (fun r_1 =>
  if r_1 = 0 then
  (MO_way_16 mo_width mo_height mo_person mo_floor mo_boxes post mo_thrown aFA v1 v2 (1 : Int32) (1 : Int32))
  else
  (MO_way_16 mo_width mo_height mo_person mo_floor mo_boxes post mo_thrown aFA v1 v2 (1 : Int32) (0 : Int32)))
def MO_live_52 (mo_width : Int32) (mo_height : Int32) (mo_floor : Int64) (mo_goals : Int64) (k18 : Int64 → Int64 → Int32 → Prop) (post : Int64 → Prop) : Nat → Int64 → Int64 → Int32 → Int32 → Prop
  | 0, _, _, _, _ => False
  | n + 1, v1, v3, v5, v6 =>
  if (4 : Int32) ≤ v6 then
  (k18 v1 v3 (v5 + (1 : Int32)))
  else
  (MO_beside mo_width mo_height v5 v6 (fun r_1 =>
  MO_has v1 r_1 (fun r_2 =>
  if r_2 = 0 then
  (MO_live_52 mo_width mo_height mo_floor mo_goals k18 post n v1 v3 v5 (v6 + (1 : Int32)))
  else
  (MO_against v6 (fun r_3 =>
  MO_beside mo_width mo_height v5 r_3 (fun r_4 =>
  MO_has mo_floor r_4 (fun r_5 =>
  if r_5 = 0 then
  (MO_live_52 mo_width mo_height mo_floor mo_goals k18 post n v1 v3 v5 (v6 + (1 : Int32)))
  else
  (∀ v1_6 : Int64, v1_6 = (v1 ||| ((1 : Int64) <<< (v5.toInt64 &&& 63))) →
  MO_live_52 mo_width mo_height mo_floor mo_goals k18 post n v1_6 v3 v5 (v6 + (1 : Int32))))))))))
def MO_live_18 (mo_width : Int32) (mo_height : Int32) (mo_floor : Int64) (mo_goals : Int64) (k7 : Int64 → Int64 → Prop) (post : Int64 → Prop) : Nat → Int64 → Int64 → Int32 → Prop
  | 0, _, _, _ => False
  | n + 1, v1, v3, v5 =>
  if (64 : Int32) ≤ v5 then
  (k7 v1 v3)
  else
  (MO_has mo_floor v5 (fun r_1 =>
  if r_1 = 0 then
  (MO_live_18 mo_width mo_height mo_floor mo_goals k7 post n v1 v3 (v5 + (1 : Int32)))
  else
  (MO_has v1 v5 (fun r_2 =>
  if r_2 = 0 then
  ((∃ n', MO_live_52 mo_width mo_height mo_floor mo_goals (fun v1' v3' v5' => MO_live_18 mo_width mo_height mo_floor mo_goals k7 post n v1' v3' v5') post n' v1 v3 v5 (0 : Int32)))
  else
  (MO_live_18 mo_width mo_height mo_floor mo_goals k7 post n v1 v3 (v5 + (1 : Int32)))))))
def MO_live_7 (mo_width : Int32) (mo_height : Int32) (mo_floor : Int64) (mo_goals : Int64) (post : Int64 → Prop) : Nat → Int64 → Int64 → Prop
  | 0, _, _ => False
  | n + 1, v1, v3 =>
  if v1 = v3 then
  (post v1)
  else
  ((∃ n', MO_live_18 mo_width mo_height mo_floor mo_goals (fun v1' v3' => MO_live_7 mo_width mo_height mo_floor mo_goals post n v1' v3') post n' v1 v1 (0 : Int32)))
def MO_live (mo_width : Int32) (mo_height : Int32) (mo_floor : Int64) (mo_goals : Int64) (post : Int64 → Prop) : Prop :=
  (∃ n', MO_live_7 mo_width mo_height mo_floor mo_goals post n' mo_goals (0 : Int64))
def MO_dead_16 (mo_width : Int32) (mo_height : Int32) (mo_floor : Int64) (mo_goals : Int64) (post : Int32 → Int32 → Prop) (mo_thrown : Int32) (v1 : Int32) (v2 : Int32) (t1 : Int32) (t2 : Int32) : Prop :=
  MO_throwsIf mo_thrown t1 t2 (fun r_1 mo_thrown_2 =>
  if r_1 = 0 then
  (MO_live mo_width mo_height mo_floor mo_goals (fun r_3 =>
  MO_has (mo_floor &&& (r_3 ^^^ (-1 : Int64))) (((8 : Int32) * v2) + v1) (fun r_4 =>
  (r_4 = 0 ∨ r_4 = 1) ∧
  post r_4 mo_thrown_2)))
  else
  (post (0 : Int32) mo_thrown_2))
def MO_dead (mo_width : Int32) (mo_height : Int32) (mo_floor : Int64) (mo_goals : Int64) (mo_thrown : Int32) (v1 : Int32) (v2 : Int32) (post : Int32 → Int32 → Prop) : Prop :=
  MO_isCell mo_width mo_height v1 v2 (fun r_1 =>
  if r_1 = 0 then
  (MO_dead_16 mo_width mo_height mo_floor mo_goals post mo_thrown v1 v2 (1 : Int32) (1 : Int32))
  else
  (MO_dead_16 mo_width mo_height mo_floor mo_goals post mo_thrown v1 v2 (1 : Int32) (0 : Int32)))
def MO_canGo (mo_width : Int32) (mo_height : Int32) (mo_floor : Int64) (v1 : Int32) (v2 : Int32) (v3 : Int64) (v5 : Int64) (post : Int32 → Prop) : Prop :=
  MO_beside mo_width mo_height v1 v2 (fun r_1 =>
  MO_against v2 (fun r_2 =>
  MO_beside mo_width mo_height v1 r_2 (fun r_3 =>
  MO_has mo_floor r_1 (fun r_4 =>
  if r_4 = 0 then
  (post (0 : Int32))
  else
  (MO_has mo_floor r_3 (fun r_5 =>
  if r_5 = 0 then
  (post (0 : Int32))
  else
  (MO_has v3 r_1 (fun r_6 =>
  if r_6 = 0 then
  (MO_has v3 r_3 (fun r_7 =>
  if r_7 = 0 then
  (MO_has v5 r_1 (fun r_8 =>
  if r_8 = 0 then
  (MO_has v5 r_3 (fun r_9 =>
  if r_9 = 0 then
  (post (0 : Int32))
  else
  (post (1 : Int32))))
  else
  (post (1 : Int32))))
  else
  (post (0 : Int32))))
  else
  (post (0 : Int32))))))))))
def MO_fastOf_64 (mo_width : Int32) (mo_height : Int32) (mo_floor : Int64) (k21 : Int64 → Int64 → Int64 → Int32 → Prop) (post : Int64 → Prop) (v3 : Int64) (v5 : Int64) (v7 : Int64) (v9 : Int32) : Prop :=
  ∀ v5_1 : Int64, v5_1 = (v5 &&& (((1 : Int64) <<< (v9.toInt64 &&& 63)) ^^^ (-1 : Int64))) →
  k21 v3 v5_1 v7 (v9 + (1 : Int32))
def MO_fastOf_21 (mo_width : Int32) (mo_height : Int32) (mo_floor : Int64) (k6 : Int64 → Int64 → Int64 → Prop) (post : Int64 → Prop) : Nat → Int64 → Int64 → Int64 → Int32 → Prop
  | 0, _, _, _, _ => False
  | n + 1, v3, v5, v7, v9 =>
  if (64 : Int32) ≤ v9 then
  (k6 v3 v5 v7)
  else
  (MO_has v5 v9 (fun r_1 =>
  if r_1 = 0 then
  (MO_fastOf_21 mo_width mo_height mo_floor k6 post n v3 v5 v7 (v9 + (1 : Int32)))
  else
  (MO_canGo mo_width mo_height mo_floor v9 (0 : Int32) v5 v3 (fun r_2 =>
  if r_2 = 0 then
  (MO_canGo mo_width mo_height mo_floor v9 (1 : Int32) v5 v3 (fun r_3 =>
  if r_3 = 0 then
  (MO_fastOf_21 mo_width mo_height mo_floor k6 post n v3 v5 v7 (v9 + (1 : Int32)))
  else
  (MO_fastOf_64 mo_width mo_height mo_floor (fun v3' v5' v7' v9' => MO_fastOf_21 mo_width mo_height mo_floor k6 post n v3' v5' v7' v9') post v3 v5 v7 v9)))
  else
  (MO_fastOf_64 mo_width mo_height mo_floor (fun v3' v5' v7' v9' => MO_fastOf_21 mo_width mo_height mo_floor k6 post n v3' v5' v7' v9') post v3 v5 v7 v9)))))
def MO_fastOf_6 (mo_width : Int32) (mo_height : Int32) (mo_floor : Int64) (post : Int64 → Prop) : Nat → Int64 → Int64 → Int64 → Prop
  | 0, _, _, _ => False
  | n + 1, v3, v5, v7 =>
  if v5 = v7 then
  (post v5)
  else
  ((∃ n', MO_fastOf_21 mo_width mo_height mo_floor (fun v3' v5' v7' => MO_fastOf_6 mo_width mo_height mo_floor post n v3' v5' v7') post n' v3 v5 v5 (0 : Int32)))
def MO_fastOf (mo_width : Int32) (mo_height : Int32) (mo_floor : Int64) (v1 : Int64) (v3 : Int64) (post : Int64 → Prop) : Prop :=
  (∃ n', MO_fastOf_6 mo_width mo_height mo_floor post n' v3 v1 (0 : Int64))
def MO_fast (mo_width : Int32) (mo_height : Int32) (mo_floor : Int64) (mo_goals : Int64) (mo_boxes : Int64) (mo_thrown : Int32) (post : Int32 → Int32 → Prop) : Prop :=
  MO_live mo_width mo_height mo_floor mo_goals (fun r_1 =>
  MO_fastOf mo_width mo_height mo_floor mo_boxes r_1 (fun r_2 =>
  MO_countOf r_2 (fun r_3 =>
  post r_3 (0 : Int32))))
def MO_stuck (mo_width : Int32) (mo_height : Int32) (mo_floor : Int64) (mo_goals : Int64) (mo_boxes : Int64) (mo_thrown : Int32) (post : Int32 → Int32 → Prop) : Prop :=
  MO_live mo_width mo_height mo_floor mo_goals (fun r_1 =>
  MO_fastOf mo_width mo_height mo_floor mo_boxes r_1 (fun r_2 =>
  if (r_2 &&& (mo_goals ^^^ (-1 : Int64))) = (0 : Int64) then
  (post (0 : Int32) (0 : Int32))
  else
  (post (1 : Int32) (0 : Int32))))
def MO_measure_33 (mo_width : Int32) (mo_height : Int32) (mo_floor : Int64) (k2 : (Nat → Int32) → Int32 → Int32 → Prop) (post : (Nat → Int32) → Prop) (aFA : (Nat → Int32)) (v1 : Int32) (v2 : Int32) (t1 : Int32) : Prop :=
  vp_in t1 64 ∧
  ∀ aFA_1 : Nat → Int32, aFA_1 = (upd aFA t1.toNatClampNeg (-1 : Int32)) →
  k2 aFA_1 v1 (v2 + (1 : Int32))
def MO_measure_73 (mo_width : Int32) (mo_height : Int32) (mo_floor : Int64) (k51 : (Nat → Int32) → Int32 → Int32 → Prop) (post : (Nat → Int32) → Prop) : Nat → (Nat → Int32) → Int32 → Int32 → Int32 → Prop
  | 0, _, _, _, _ => False
  | n + 1, aFA, v2, v3, v4 =>
  if (4 : Int32) ≤ v4 then
  (k51 aFA v2 (v3 + (1 : Int32)))
  else
  (MO_beside mo_width mo_height v3 v4 (fun r_1 =>
  MO_has mo_floor r_1 (fun r_2 =>
  if r_2 = 0 then
  (MO_measure_73 mo_width mo_height mo_floor k51 post n aFA v2 v3 (v4 + (1 : Int32)))
  else
  (vp_in r_1 64 ∧
  if 0 ≤ (aFA r_1.toNatClampNeg) then
  (MO_measure_73 mo_width mo_height mo_floor k51 post n aFA v2 v3 (v4 + (1 : Int32)))
  else
  (MO_against v4 (fun r_3 =>
  MO_beside mo_width mo_height v3 r_3 (fun r_4 =>
  MO_has mo_floor r_4 (fun r_5 =>
  if r_5 = 0 then
  (MO_measure_73 mo_width mo_height mo_floor k51 post n aFA v2 v3 (v4 + (1 : Int32)))
  else
  (∀ x_6 : Int32, x_6 = (v2 + (1 : Int32)) →
  vp_in r_1 64 ∧
  ∀ aFA_7 : Nat → Int32, aFA_7 = (upd aFA r_1.toNatClampNeg x_6) →
  MO_measure_73 mo_width mo_height mo_floor k51 post n aFA_7 v2 v3 (v4 + (1 : Int32)))))))))))
def MO_measure_51 (mo_width : Int32) (mo_height : Int32) (mo_floor : Int64) (k43 : (Nat → Int32) → Int32 → Prop) (post : (Nat → Int32) → Prop) : Nat → (Nat → Int32) → Int32 → Int32 → Prop
  | 0, _, _, _ => False
  | n + 1, aFA, v2, v3 =>
  if (64 : Int32) ≤ v3 then
  (k43 aFA (v2 + (1 : Int32)))
  else
  (vp_in v3 64 ∧
  if (aFA v3.toNatClampNeg) = v2 then
  ((∃ n', MO_measure_73 mo_width mo_height mo_floor (fun aFA' v2' v3' => MO_measure_51 mo_width mo_height mo_floor k43 post n aFA' v2' v3') post n' aFA v2 v3 (0 : Int32)))
  else
  (MO_measure_51 mo_width mo_height mo_floor k43 post n aFA v2 (v3 + (1 : Int32))))
def MO_measure_43 (mo_width : Int32) (mo_height : Int32) (mo_floor : Int64) (post : (Nat → Int32) → Prop) : Nat → (Nat → Int32) → Int32 → Prop
  | 0, _, _ => False
  | n + 1, aFA, v2 =>
  if (64 : Int32) ≤ v2 then
  (post aFA)
  else
  ((∃ n', MO_measure_51 mo_width mo_height mo_floor (fun aFA' v2' => MO_measure_43 mo_width mo_height mo_floor post n aFA' v2') post n' aFA v2 (0 : Int32)))
def MO_measure_2 (mo_width : Int32) (mo_height : Int32) (mo_floor : Int64) (post : (Nat → Int32) → Prop) : Nat → (Nat → Int32) → Int32 → Int32 → Prop
  | 0, _, _, _ => False
  | n + 1, aFA, v1, v2 =>
  if (64 : Int32) ≤ v2 then
  ((∃ n', MO_measure_43 mo_width mo_height mo_floor post n' aFA (0 : Int32)))
  else
  (if v2 = v1 then
  (MO_has mo_floor v2 (fun r_1 =>
  if r_1 = 0 then
  (MO_measure_33 mo_width mo_height mo_floor (fun aFA' v1' v2' => MO_measure_2 mo_width mo_height mo_floor post n aFA' v1' v2') post aFA v1 v2 v2)
  else
  (vp_in v2 64 ∧
  ∀ aFA_2 : Nat → Int32, aFA_2 = (upd aFA v2.toNatClampNeg (0 : Int32)) →
  MO_measure_2 mo_width mo_height mo_floor post n aFA_2 v1 (v2 + (1 : Int32)))))
  else
  (MO_measure_33 mo_width mo_height mo_floor (fun aFA' v1' v2' => MO_measure_2 mo_width mo_height mo_floor post n aFA' v1' v2') post aFA v1 v2 v2))
def MO_measure (mo_width : Int32) (mo_height : Int32) (mo_floor : Int64) (aFA : Nat → Int32) (v1 : Int32) (post : (Nat → Int32) → Prop) : Prop :=
  (∃ n', MO_measure_2 mo_width mo_height mo_floor post n' aFA v1 (0 : Int32))
def MO_pushes_21 (mo_width : Int32) (mo_height : Int32) (mo_floor : Int64) (k26 : Int32 → (Nat → Int32) → Int32 → Int32 → Int32 → Int32 → Int32 → Int32 → Prop) (post : Int32 → Int32 → (Nat → Int32) → Prop) (mo_thrown : Int32) (aFA : (Nat → Int32)) (v1 : Int32) (v2 : Int32) (v3 : Int32) (v4 : Int32) (t1 : Int32) : Prop :=
  k26 mo_thrown aFA v1 v2 v3 v4 t1 (1 : Int32)
def MO_pushes_26 (mo_width : Int32) (mo_height : Int32) (mo_floor : Int64) (post : Int32 → Int32 → (Nat → Int32) → Prop) (mo_thrown : Int32) (aFA : (Nat → Int32)) (v1 : Int32) (v2 : Int32) (v3 : Int32) (v4 : Int32) (t1 : Int32) (t2 : Int32) : Prop :=
  MO_throwsIf mo_thrown t1 t2 (fun r_1 mo_thrown_2 =>
  if r_1 = 0 then
  (MO_measure mo_width mo_height mo_floor aFA (((8 : Int32) * v2) + v1) (fun aFA_3 =>
  vp_in (((8 : Int32) * v4) + v3) 64 ∧
  post (aFA_3 (((8 : Int32) * v4) + v3).toNatClampNeg) mo_thrown_2 aFA_3))
  else
  (post (0 : Int32) mo_thrown_2 aFA))
def MO_pushes (mo_width : Int32) (mo_height : Int32) (mo_floor : Int64) (mo_thrown : Int32) (aFA : Nat → Int32) (v1 : Int32) (v2 : Int32) (v3 : Int32) (v4 : Int32) (post : Int32 → Int32 → (Nat → Int32) → Prop) : Prop :=
  MO_isCell mo_width mo_height v1 v2 (fun r_1 =>
  if r_1 = 0 then
  (MO_pushes_21 mo_width mo_height mo_floor (fun mo_thrown' aFA' v1' v2' v3' v4' t1' t2' => MO_pushes_26 mo_width mo_height mo_floor post mo_thrown' aFA' v1' v2' v3' v4' t1' t2') post mo_thrown aFA v1 v2 v3 v4 (1 : Int32))
  else
  (MO_isCell mo_width mo_height v3 v4 (fun r_2 =>
  if r_2 = 0 then
  (MO_pushes_21 mo_width mo_height mo_floor (fun mo_thrown' aFA' v1' v2' v3' v4' t1' t2' => MO_pushes_26 mo_width mo_height mo_floor post mo_thrown' aFA' v1' v2' v3' v4' t1' t2') post mo_thrown aFA v1 v2 v3 v4 (1 : Int32))
  else
  (MO_pushes_26 mo_width mo_height mo_floor post mo_thrown aFA v1 v2 v3 v4 (1 : Int32) (0 : Int32)))))
def MO_goalAt_4 (mo_goals : Int64) (post : Int32 → Prop) : Nat → Int32 → Int32 → Int32 → Prop
  | 0, _, _, _ => False
  | n + 1, v1, v2, v3 =>
  if (64 : Int32) ≤ v3 then
  (post (-1 : Int32))
  else
  (MO_has mo_goals v3 (fun r_1 =>
  if r_1 = 0 then
  (MO_goalAt_4 mo_goals post n v1 v2 (v3 + (1 : Int32)))
  else
  (if v2 = v1 then
  (post v3)
  else
  (MO_goalAt_4 mo_goals post n v1 (v2 + (1 : Int32)) (v3 + (1 : Int32))))))
def MO_goalAt (mo_goals : Int64) (v1 : Int32) (post : Int32 → Prop) : Prop :=
  (∃ n', MO_goalAt_4 mo_goals post n' v1 (0 : Int32) (0 : Int32))
def MO_bound_177 (mo_width : Int32) (mo_height : Int32) (mo_floor : Int64) (mo_goals : Int64) (mo_boxes : Int64) (k83 : Int32 → (Nat → Int32) → (Nat → Int32) → Int32 → Int32 → Int32 → Int32 → Prop) (post : Int32 → Int32 → (Nat → Int32) → (Nat → Int32) → Prop) (mo_thrown : Int32) (aFA : (Nat → Int32)) (aLE : (Nat → Int32)) (v1 : Int32) (v2 : Int32) (v3 : Int32) (v4 : Int32) (v6 : Int32) (t1 : Int32) : Prop :=
  vp_in t1 4096 ∧
  ∀ aLE_1 : Nat → Int32, aLE_1 = (upd aLE t1.toNatClampNeg v6) →
  k83 mo_thrown aFA aLE_1 v1 v2 v3 (v4 + (1 : Int32))
def MO_bound_83 (mo_width : Int32) (mo_height : Int32) (mo_floor : Int64) (mo_goals : Int64) (mo_boxes : Int64) (k76 : Int32 → (Nat → Int32) → (Nat → Int32) → Int32 → Int32 → Int32 → Prop) (post : Int32 → Int32 → (Nat → Int32) → (Nat → Int32) → Prop) : Nat → Int32 → (Nat → Int32) → (Nat → Int32) → Int32 → Int32 → Int32 → Int32 → Prop
  | 0, _, _, _, _, _, _, _ => False
  | n + 1, mo_thrown, aFA, aLE, v1, v2, v3, v4 =>
  if v1 ≤ v4 then
  (k76 mo_thrown aFA aLE v1 v2 (v3 + (-1 : Int32)))
  else
  (if ((v3 >>> (v4 &&& 31)) &&& (1 : Int32)) = 0 then
  (MO_bound_83 mo_width mo_height mo_floor mo_goals mo_boxes k76 post n mo_thrown aFA aLE v1 v2 v3 (v4 + (1 : Int32)))
  else
  (vp_in (v3 ^^^ ((1 : Int32) <<< (v4 &&& 31))) 4096 ∧
  if 0 ≤ (aLE (v3 ^^^ ((1 : Int32) <<< (v4 &&& 31))).toNatClampNeg) then
  (MO_goalAt mo_goals v4 (fun r_1 =>
  vp_in r_1 64 ∧
  ∀ v5_2 : Int32, v5_2 = (aFA r_1.toNatClampNeg) →
  if 0 ≤ v5_2 then
  (vp_in (v3 ^^^ ((1 : Int32) <<< (v4 &&& 31))) 4096 ∧
  ∀ v6_3 : Int32, v6_3 = ((aLE (v3 ^^^ ((1 : Int32) <<< (v4 &&& 31))).toNatClampNeg) + v5_2) →
  vp_in v3 4096 ∧
  if (aLE v3.toNatClampNeg) < 0 then
  (MO_bound_177 mo_width mo_height mo_floor mo_goals mo_boxes (fun mo_thrown' aFA' aLE' v1' v2' v3' v4' => MO_bound_83 mo_width mo_height mo_floor mo_goals mo_boxes k76 post n mo_thrown' aFA' aLE' v1' v2' v3' v4') post mo_thrown aFA aLE v1 v2 v3 v4 v6_3 v3)
  else
  (vp_in v3 4096 ∧
  if (aLE v3.toNatClampNeg) ≤ v6_3 then
  (vp_in v3 4096 ∧
  ∀ x_4 : Int32, x_4 = (aLE v3.toNatClampNeg) →
  vp_in v3 4096 ∧
  ∀ aLE_5 : Nat → Int32, aLE_5 = (upd aLE v3.toNatClampNeg x_4) →
  MO_bound_83 mo_width mo_height mo_floor mo_goals mo_boxes k76 post n mo_thrown aFA aLE_5 v1 v2 v3 (v4 + (1 : Int32)))
  else
  (MO_bound_177 mo_width mo_height mo_floor mo_goals mo_boxes (fun mo_thrown' aFA' aLE' v1' v2' v3' v4' => MO_bound_83 mo_width mo_height mo_floor mo_goals mo_boxes k76 post n mo_thrown' aFA' aLE' v1' v2' v3' v4') post mo_thrown aFA aLE v1 v2 v3 v4 v6_3 v3)))
  else
  (MO_bound_83 mo_width mo_height mo_floor mo_goals mo_boxes k76 post n mo_thrown aFA aLE v1 v2 v3 (v4 + (1 : Int32)))))
  else
  (MO_bound_83 mo_width mo_height mo_floor mo_goals mo_boxes k76 post n mo_thrown aFA aLE v1 v2 v3 (v4 + (1 : Int32)))))
def MO_bound_76 (mo_width : Int32) (mo_height : Int32) (mo_floor : Int64) (mo_goals : Int64) (mo_boxes : Int64) (k45 : Int32 → (Nat → Int32) → (Nat → Int32) → Int32 → Int32 → Prop) (post : Int32 → Int32 → (Nat → Int32) → (Nat → Int32) → Prop) : Nat → Int32 → (Nat → Int32) → (Nat → Int32) → Int32 → Int32 → Int32 → Prop
  | 0, _, _, _, _, _, _ => False
  | n + 1, mo_thrown, aFA, aLE, v1, v2, v3 =>
  if v3 ≤ 0 then
  (k45 mo_thrown aFA aLE v1 (v2 + (1 : Int32)))
  else
  ((∃ n', MO_bound_83 mo_width mo_height mo_floor mo_goals mo_boxes (fun mo_thrown' aFA' aLE' v1' v2' v3' => MO_bound_76 mo_width mo_height mo_floor mo_goals mo_boxes k45 post n mo_thrown' aFA' aLE' v1' v2' v3') post n' mo_thrown aFA aLE v1 v2 v3 (0 : Int32)))
def MO_bound_45 (mo_width : Int32) (mo_height : Int32) (mo_floor : Int64) (mo_goals : Int64) (mo_boxes : Int64) (post : Int32 → Int32 → (Nat → Int32) → (Nat → Int32) → Prop) : Nat → Int32 → (Nat → Int32) → (Nat → Int32) → Int32 → Int32 → Prop
  | 0, _, _, _, _, _ => False
  | n + 1, mo_thrown, aFA, aLE, v1, v2 =>
  if (64 : Int32) ≤ v2 then
  (vp_in (((1 : Int32) <<< (v1 &&& 31)) - (1 : Int32)) 4096 ∧
  post (aLE (((1 : Int32) <<< (v1 &&& 31)) - (1 : Int32)).toNatClampNeg) mo_thrown aFA aLE)
  else
  (MO_has mo_boxes v2 (fun r_1 =>
  if r_1 = 0 then
  (MO_bound_45 mo_width mo_height mo_floor mo_goals mo_boxes post n mo_thrown aFA aLE v1 (v2 + (1 : Int32)))
  else
  (MO_measure mo_width mo_height mo_floor aFA v2 (fun aFA_2 =>
  ∀ v3_3 : Int32, v3_3 = (((1 : Int32) <<< (v1 &&& 31)) - (1 : Int32)) →
  (∃ n', MO_bound_76 mo_width mo_height mo_floor mo_goals mo_boxes (fun mo_thrown' aFA' aLE' v1' v2' => MO_bound_45 mo_width mo_height mo_floor mo_goals mo_boxes post n mo_thrown' aFA' aLE' v1' v2') post n' mo_thrown aFA_2 aLE v1 v2 v3_3)))))
def MO_bound_15 (mo_width : Int32) (mo_height : Int32) (mo_floor : Int64) (mo_goals : Int64) (mo_boxes : Int64) (post : Int32 → Int32 → (Nat → Int32) → (Nat → Int32) → Prop) : Nat → Int32 → (Nat → Int32) → (Nat → Int32) → Int32 → Int32 → Prop
  | 0, _, _, _, _, _ => False
  | n + 1, mo_thrown, aFA, aLE, v1, v2 =>
  if ((1 : Int32) <<< (v1 &&& 31)) ≤ v2 then
  ((∃ n', MO_bound_45 mo_width mo_height mo_floor mo_goals mo_boxes post n' mo_thrown aFA aLE v1 (0 : Int32)))
  else
  (if v2 = 0 then
  (vp_in v2 4096 ∧
  ∀ aLE_2 : Nat → Int32, aLE_2 = (upd aLE v2.toNatClampNeg (0 : Int32)) →
  MO_bound_15 mo_width mo_height mo_floor mo_goals mo_boxes post n mo_thrown aFA aLE_2 v1 (v2 + (1 : Int32)))
  else
  (vp_in v2 4096 ∧
  ∀ aLE_1 : Nat → Int32, aLE_1 = (upd aLE v2.toNatClampNeg (-1 : Int32)) →
  MO_bound_15 mo_width mo_height mo_floor mo_goals mo_boxes post n mo_thrown aFA aLE_1 v1 (v2 + (1 : Int32))))
def MO_bound (mo_width : Int32) (mo_height : Int32) (mo_floor : Int64) (mo_goals : Int64) (mo_boxes : Int64) (mo_thrown : Int32) (aFA : Nat → Int32) (aLE : Nat → Int32) (post : Int32 → Int32 → (Nat → Int32) → (Nat → Int32) → Prop) : Prop :=
  MO_countOf mo_goals (fun r_1 =>
  (∃ n', MO_bound_15 mo_width mo_height mo_floor mo_goals mo_boxes post n' (0 : Int32) aFA aLE r_1 (0 : Int32)))
def MO_leastOf_2 (post : Int32 → Prop) : Nat → Int64 → Int32 → Prop
  | 0, _, _ => False
  | n + 1, v0, v2 =>
  if ((v0 >>> (v2.toInt64 &&& 63)) &&& (1 : Int64)) = (0 : Int64) then
  (MO_leastOf_2 post n v0 (v2 + (1 : Int32)))
  else
  (post v2)
def MO_leastOf (v0 : Int64) (post : Int32 → Prop) : Prop :=
  (∃ n', MO_leastOf_2 post n' v0 (0 : Int32))
def MO_seatOf_78 (aXB : Nat → Int64) (aXC : Nat → Int32) (aXS : Nat → Int32) (k35 : Int64 → Int32 → Int32 → Prop) (post : Int32 → Prop) (v1 : Int64) (v3 : Int32) (v6 : Int32) : Prop :=
  ∀ v6_1 : Int32, v6_1 = ((v6 + (1 : Int32)) - (v6 + (1 : Int32)) / (32768 : Int32) * (32768 : Int32)) →
  k35 v1 v3 v6_1
def MO_seatOf_35 (aXB : Nat → Int64) (aXC : Nat → Int32) (aXS : Nat → Int32) (post : Int32 → Prop) : Nat → Int64 → Int32 → Int32 → Prop
  | 0, _, _, _ => False
  | n + 1, v1, v3, v6 =>
  vp_in v6 32768 ∧
  if (aXS v6.toNatClampNeg) < 0 then
  (post v6)
  else
  (vp_in v6 32768 ∧
  vp_in (aXS v6.toNatClampNeg) 10001 ∧
  if (aXB (aXS v6.toNatClampNeg).toNatClampNeg) = v1 then
  (vp_in v6 32768 ∧
  vp_in (aXS v6.toNatClampNeg) 10001 ∧
  if (aXC (aXS v6.toNatClampNeg).toNatClampNeg) = v3 then
  (post v6)
  else
  (MO_seatOf_78 aXB aXC aXS (fun v1' v3' v6' => MO_seatOf_35 aXB aXC aXS post n v1' v3' v6') post v1 v3 v6))
  else
  (MO_seatOf_78 aXB aXC aXS (fun v1' v3' v6' => MO_seatOf_35 aXB aXC aXS post n v1' v3' v6') post v1 v3 v6))
def MO_seatOf (aXB : Nat → Int64) (aXC : Nat → Int32) (aXS : Nat → Int32) (v1 : Int64) (v3 : Int32) (post : Int32 → Prop) : Prop :=
  ∀ v4_1 : Int64, v4_1 = ((v1 * (31 : Int64)) + v3.toInt64) →
  ∀ v4_2 : Int64, v4_2 = ((v4_1 ^^^ (v4_1.toUInt64 >>> ((29 : Int32).toInt64.toUInt64 &&& Int64.toUInt64 63)).toInt64) ^^^ (v4_1.toUInt64 >>> ((47 : Int32).toInt64.toUInt64 &&& Int64.toUInt64 63)).toInt64) →
  ∀ v6_3 : Int32, v6_3 = (v4_2 &&& (32767 : Int64)).toInt32 →
  (∃ n', MO_seatOf_35 aXB aXC aXS post n' v1 v3 v6_3)
def MO_isNew (mo_width : Int32) (mo_height : Int32) (mo_floor : Int64) (mo_many : Int32) (aXB : Nat → Int64) (aXC : Nat → Int32) (aXF : Nat → Int32) (aXY : Nat → Int32) (aXS : Nat → Int32) (v1 : Int64) (v3 : Int32) (v4 : Int32) (v5 : Int32) (post : Int32 → Int32 → (Nat → Int64) → (Nat → Int32) → (Nat → Int32) → (Nat → Int32) → (Nat → Int32) → Prop) : Prop :=
  MO_reachOf mo_width mo_height mo_floor v3 v1 (fun r_1 =>
  MO_leastOf r_1 (fun r_2 =>
  MO_seatOf aXB aXC aXS v1 r_2 (fun r_3 =>
  vp_in r_3 32768 ∧
  if (aXS r_3.toNatClampNeg) < 0 then
  (vp_in r_3 32768 ∧
  ∀ aXS_4 : Nat → Int32, aXS_4 = (upd aXS r_3.toNatClampNeg mo_many) →
  vp_in mo_many 10001 ∧
  ∀ aXB_5 : Nat → Int64, aXB_5 = (vp_updL aXB mo_many.toNatClampNeg v1) →
  vp_in mo_many 10001 ∧
  ∀ aXC_6 : Nat → Int32, aXC_6 = (upd aXC mo_many.toNatClampNeg r_2) →
  vp_in mo_many 10001 ∧
  ∀ aXF_7 : Nat → Int32, aXF_7 = (upd aXF mo_many.toNatClampNeg v4) →
  vp_in mo_many 10001 ∧
  ∀ aXY_8 : Nat → Int32, aXY_8 = (upd aXY mo_many.toNatClampNeg v5) →
  ∀ mo_many_9 : Int32, mo_many_9 = (mo_many + (1 : Int32)) →
  post (1 : Int32) mo_many_9 aXB_5 aXC_6 aXF_7 aXY_8 aXS_4)
  else
  (post (0 : Int32) mo_many aXB aXC aXF aXY aXS))))
def MO_spread_108 (mo_width : Int32) (mo_height : Int32) (mo_person : Int32) (mo_floor : Int64) (mo_goals : Int64) (mo_boxes : Int64) (k98 : Int32 → (Nat → Int64) → (Nat → Int32) → (Nat → Int32) → (Nat → Int32) → (Nat → Int32) → Int32 → Int64 → Int32 → Int64 → Int64 → Int32 → Prop) (post : Int32 → Int32 → (Nat → Int64) → (Nat → Int32) → (Nat → Int32) → (Nat → Int32) → (Nat → Int32) → Prop) : Nat → Int32 → (Nat → Int64) → (Nat → Int32) → (Nat → Int32) → (Nat → Int32) → (Nat → Int32) → Int32 → Int64 → Int32 → Int64 → Int64 → Int32 → Int32 → Prop
  | 0, _, _, _, _, _, _, _, _, _, _, _, _, _ => False
  | n + 1, mo_many, aXB, aXC, aXF, aXY, aXS, v1, v2, v4, v5, v7, v9, v10 =>
  if (4 : Int32) ≤ v10 then
  (k98 mo_many aXB aXC aXF aXY aXS v1 v2 v4 v5 v7 (v9 + (1 : Int32)))
  else
  (MO_has v5 v9 (fun r_1 =>
  if r_1 = 0 then
  (k98 mo_many aXB aXC aXF aXY aXS v1 v2 v4 v5 v7 (v9 + (1 : Int32)))
  else
  (MO_beside mo_width mo_height v9 v10 (fun r_2 =>
  MO_against v10 (fun r_3 =>
  MO_beside mo_width mo_height v9 r_3 (fun r_4 =>
  MO_has v7 r_4 (fun r_5 =>
  if r_5 = 0 then
  (MO_spread_108 mo_width mo_height mo_person mo_floor mo_goals mo_boxes k98 post n mo_many aXB aXC aXF aXY aXS v1 v2 v4 v5 v7 v9 (v10 + (1 : Int32)))
  else
  (MO_has mo_floor r_2 (fun r_6 =>
  if r_6 = 0 then
  (MO_spread_108 mo_width mo_height mo_person mo_floor mo_goals mo_boxes k98 post n mo_many aXB aXC aXF aXY aXS v1 v2 v4 v5 v7 v9 (v10 + (1 : Int32)))
  else
  (MO_has v5 r_2 (fun r_7 =>
  if r_7 = 0 then
  (MO_has v2 r_2 (fun r_8 =>
  if r_8 = 0 then
  (MO_spread_108 mo_width mo_height mo_person mo_floor mo_goals mo_boxes k98 post n mo_many aXB aXC aXF aXY aXS v1 v2 v4 v5 v7 v9 (v10 + (1 : Int32)))
  else
  (∀ v12_9 : Int64, v12_9 = ((v5 &&& (((1 : Int64) <<< (v9.toInt64 &&& 63)) ^^^ (-1 : Int64))) ||| ((1 : Int64) <<< (r_2.toInt64 &&& 63))) →
  MO_fastOf mo_width mo_height mo_floor v12_9 v2 (fun r_10 =>
  if (r_10 &&& (mo_goals ^^^ (-1 : Int64))) = (0 : Int64) then
  (MO_number mo_width v9 (fun r_11 =>
  MO_isNew mo_width mo_height mo_floor mo_many aXB aXC aXF aXY aXS v12_9 v9 v4 (((4 : Int32) * r_11) + v10) (fun r_12 mo_many_13 aXB_14 aXC_15 aXF_16 aXY_17 aXS_18 =>
  if r_12 = 0 then
  (MO_spread_108 mo_width mo_height mo_person mo_floor mo_goals mo_boxes k98 post n mo_many_13 aXB_14 aXC_15 aXF_16 aXY_17 aXS_18 v1 v2 v4 v5 v7 v9 (v10 + (1 : Int32)))
  else
  (if mo_many_13 ≤ v1 then
  (MO_isDone mo_goals v12_9 (fun r_19 =>
  if r_19 = 0 then
  (MO_spread_108 mo_width mo_height mo_person mo_floor mo_goals mo_boxes k98 post n mo_many_13 aXB_14 aXC_15 aXF_16 aXY_17 aXS_18 v1 v2 v4 v5 v7 v9 (v10 + (1 : Int32)))
  else
  (post (mo_many_13 - (1 : Int32)) mo_many_13 aXB_14 aXC_15 aXF_16 aXY_17 aXS_18)))
  else
  (post (-2 : Int32) mo_many_13 aXB_14 aXC_15 aXF_16 aXY_17 aXS_18)))))
  else
  (MO_spread_108 mo_width mo_height mo_person mo_floor mo_goals mo_boxes k98 post n mo_many aXB aXC aXF aXY aXS v1 v2 v4 v5 v7 v9 (v10 + (1 : Int32)))))))
  else
  (MO_spread_108 mo_width mo_height mo_person mo_floor mo_goals mo_boxes k98 post n mo_many aXB aXC aXF aXY aXS v1 v2 v4 v5 v7 v9 (v10 + (1 : Int32))))))))))))))
def MO_spread_98 (mo_width : Int32) (mo_height : Int32) (mo_person : Int32) (mo_floor : Int64) (mo_goals : Int64) (mo_boxes : Int64) (k62 : Int32 → (Nat → Int64) → (Nat → Int32) → (Nat → Int32) → (Nat → Int32) → (Nat → Int32) → Int32 → Int64 → Int32 → Prop) (post : Int32 → Int32 → (Nat → Int64) → (Nat → Int32) → (Nat → Int32) → (Nat → Int32) → (Nat → Int32) → Prop) : Nat → Int32 → (Nat → Int64) → (Nat → Int32) → (Nat → Int32) → (Nat → Int32) → (Nat → Int32) → Int32 → Int64 → Int32 → Int64 → Int64 → Int32 → Prop
  | 0, _, _, _, _, _, _, _, _, _, _, _, _ => False
  | n + 1, mo_many, aXB, aXC, aXF, aXY, aXS, v1, v2, v4, v5, v7, v9 =>
  if (64 : Int32) ≤ v9 then
  (k62 mo_many aXB aXC aXF aXY aXS v1 v2 (v4 + (1 : Int32)))
  else
  ((∃ n', MO_spread_108 mo_width mo_height mo_person mo_floor mo_goals mo_boxes (fun mo_many' aXB' aXC' aXF' aXY' aXS' v1' v2' v4' v5' v7' v9' => MO_spread_98 mo_width mo_height mo_person mo_floor mo_goals mo_boxes k62 post n mo_many' aXB' aXC' aXF' aXY' aXS' v1' v2' v4' v5' v7' v9') post n' mo_many aXB aXC aXF aXY aXS v1 v2 v4 v5 v7 v9 (0 : Int32)))
def MO_spread_62 (mo_width : Int32) (mo_height : Int32) (mo_person : Int32) (mo_floor : Int64) (mo_goals : Int64) (mo_boxes : Int64) (post : Int32 → Int32 → (Nat → Int64) → (Nat → Int32) → (Nat → Int32) → (Nat → Int32) → (Nat → Int32) → Prop) : Nat → Int32 → (Nat → Int64) → (Nat → Int32) → (Nat → Int32) → (Nat → Int32) → (Nat → Int32) → Int32 → Int64 → Int32 → Prop
  | 0, _, _, _, _, _, _, _, _, _ => False
  | n + 1, mo_many, aXB, aXC, aXF, aXY, aXS, v1, v2, v4 =>
  if mo_many ≤ v4 then
  (post (-1 : Int32) mo_many aXB aXC aXF aXY aXS)
  else
  (vp_in v4 10001 ∧
  ∀ v5_1 : Int64, v5_1 = (aXB v4.toNatClampNeg) →
  vp_in v4 10001 ∧
  MO_reachOf mo_width mo_height mo_floor (aXC v4.toNatClampNeg) v5_1 (fun r_2 =>
  (∃ n', MO_spread_98 mo_width mo_height mo_person mo_floor mo_goals mo_boxes (fun mo_many' aXB' aXC' aXF' aXY' aXS' v1' v2' v4' => MO_spread_62 mo_width mo_height mo_person mo_floor mo_goals mo_boxes post n mo_many' aXB' aXC' aXF' aXY' aXS' v1' v2' v4') post n' mo_many aXB aXC aXF aXY aXS v1 v2 v4 v5_1 r_2 (0 : Int32))))
def MO_spread_2 (mo_width : Int32) (mo_height : Int32) (mo_person : Int32) (mo_floor : Int64) (mo_goals : Int64) (mo_boxes : Int64) (post : Int32 → Int32 → (Nat → Int64) → (Nat → Int32) → (Nat → Int32) → (Nat → Int32) → (Nat → Int32) → Prop) : Nat → Int32 → (Nat → Int64) → (Nat → Int32) → (Nat → Int32) → (Nat → Int32) → (Nat → Int32) → Int32 → Int32 → Prop
  | 0, _, _, _, _, _, _, _, _ => False
  | n + 1, mo_many, aXB, aXC, aXF, aXY, aXS, v1, v2 =>
  if (32768 : Int32) ≤ v2 then
  (MO_isNew mo_width mo_height mo_floor (0 : Int32) aXB aXC aXF aXY aXS mo_boxes mo_person (-1 : Int32) (0 : Int32) (fun r_1 mo_many_2 aXB_3 aXC_4 aXF_5 aXY_6 aXS_7 =>
  MO_isDone mo_goals mo_boxes (fun r_8 =>
  if r_8 = 0 then
  (MO_live mo_width mo_height mo_floor mo_goals (fun r_9 =>
  (∃ n', MO_spread_62 mo_width mo_height mo_person mo_floor mo_goals mo_boxes post n' mo_many_2 aXB_3 aXC_4 aXF_5 aXY_6 aXS_7 v1 r_9 (0 : Int32))))
  else
  (post (0 : Int32) mo_many_2 aXB_3 aXC_4 aXF_5 aXY_6 aXS_7))))
  else
  (vp_in v2 32768 ∧
  ∀ aXS_10 : Nat → Int32, aXS_10 = (upd aXS v2.toNatClampNeg (-1 : Int32)) →
  MO_spread_2 mo_width mo_height mo_person mo_floor mo_goals mo_boxes post n mo_many aXB aXC aXF aXY aXS_10 v1 (v2 + (1 : Int32)))
def MO_spread (mo_width : Int32) (mo_height : Int32) (mo_person : Int32) (mo_floor : Int64) (mo_goals : Int64) (mo_boxes : Int64) (mo_many : Int32) (aXB : Nat → Int64) (aXC : Nat → Int32) (aXF : Nat → Int32) (aXY : Nat → Int32) (aXS : Nat → Int32) (v1 : Int32) (post : Int32 → Int32 → (Nat → Int64) → (Nat → Int32) → (Nat → Int32) → (Nat → Int32) → (Nat → Int32) → Prop) : Prop :=
  (∃ n', MO_spread_2 mo_width mo_height mo_person mo_floor mo_goals mo_boxes post n' mo_many aXB aXC aXF aXY aXS v1 (0 : Int32))
def MO_search_96 (mo_isBoard : Int32) (mo_width : Int32) (mo_height : Int32) (mo_person : Int32) (mo_floor : Int64) (mo_goals : Int64) (mo_boxes : Int64) (post : Int32 → Int32 → Int32 → Int32 → Int32 → (Nat → Int64) → (Nat → Int32) → (Nat → Int32) → (Nat → Int32) → (Nat → Int32) → (Nat → Int32) → Prop) : Nat → Int32 → Int32 → Int32 → Int32 → (Nat → Int64) → (Nat → Int32) → (Nat → Int32) → (Nat → Int32) → (Nat → Int32) → (Nat → Int32) → Int32 → Int32 → Prop
  | 0, _, _, _, _, _, _, _, _, _, _, _, _ => False
  | n + 1, mo_thrown, mo_many, mo_taken, mo_length, aXB, aXC, aXF, aXY, aXS, aXP, v3, v4 =>
  if v4 ≤ 0 then
  (post mo_length mo_thrown mo_many mo_taken mo_length aXB aXC aXF aXY aXS aXP)
  else
  (vp_in v4 10001 ∧
  ∀ x_1 : Int32, x_1 = (aXY v4.toNatClampNeg) →
  vp_in (v3 + (-1 : Int32)) 10001 ∧
  ∀ aXP_2 : Nat → Int32, aXP_2 = (upd aXP (v3 + (-1 : Int32)).toNatClampNeg x_1) →
  vp_in v4 10001 ∧
  ∀ v4_3 : Int32, v4_3 = (aXF v4.toNatClampNeg) →
  MO_search_96 mo_isBoard mo_width mo_height mo_person mo_floor mo_goals mo_boxes post n mo_thrown mo_many mo_taken mo_length aXB aXC aXF aXY aXS aXP_2 (v3 + (-1 : Int32)) v4_3)
def MO_search_64 (mo_isBoard : Int32) (mo_width : Int32) (mo_height : Int32) (mo_person : Int32) (mo_floor : Int64) (mo_goals : Int64) (mo_boxes : Int64) (post : Int32 → Int32 → Int32 → Int32 → Int32 → (Nat → Int64) → (Nat → Int32) → (Nat → Int32) → (Nat → Int32) → (Nat → Int32) → (Nat → Int32) → Prop) : Nat → Int32 → Int32 → Int32 → Int32 → (Nat → Int64) → (Nat → Int32) → (Nat → Int32) → (Nat → Int32) → (Nat → Int32) → (Nat → Int32) → Int32 → Int32 → Prop
  | 0, _, _, _, _, _, _, _, _, _, _, _, _ => False
  | n + 1, mo_thrown, mo_many, mo_taken, mo_length, aXB, aXC, aXF, aXY, aXS, aXP, v2, v3 =>
  if v3 ≤ 0 then
  ((∃ n', MO_search_96 mo_isBoard mo_width mo_height mo_person mo_floor mo_goals mo_boxes post n' mo_thrown mo_many mo_taken mo_length aXB aXC aXF aXY aXS aXP mo_length v2))
  else
  (∀ mo_length_1 : Int32, mo_length_1 = (mo_length + (1 : Int32)) →
  vp_in v3 10001 ∧
  ∀ v3_2 : Int32, v3_2 = (aXF v3.toNatClampNeg) →
  MO_search_64 mo_isBoard mo_width mo_height mo_person mo_floor mo_goals mo_boxes post n mo_thrown mo_many mo_taken mo_length_1 aXB aXC aXF aXY aXS aXP v2 v3_2)
def MO_search_48 (mo_isBoard : Int32) (mo_width : Int32) (mo_height : Int32) (mo_person : Int32) (mo_floor : Int64) (mo_goals : Int64) (mo_boxes : Int64) (post : Int32 → Int32 → Int32 → Int32 → Int32 → (Nat → Int64) → (Nat → Int32) → (Nat → Int32) → (Nat → Int32) → (Nat → Int32) → (Nat → Int32) → Prop) (mo_thrown : Int32) (mo_many : Int32) (mo_taken : Int32) (mo_length : Int32) (aXB : (Nat → Int64)) (aXC : (Nat → Int32)) (aXF : (Nat → Int32)) (aXY : (Nat → Int32)) (aXS : (Nat → Int32)) (aXP : (Nat → Int32)) (v2 : Int32) (t1 : Int32) : Prop :=
  if 0 ≤ v2 then
  ((∃ n', MO_search_64 mo_isBoard mo_width mo_height mo_person mo_floor mo_goals mo_boxes post n' mo_thrown mo_many t1 (0 : Int32) aXB aXC aXF aXY aXS aXP v2 v2))
  else
  (post v2 mo_thrown mo_many t1 (0 : Int32) aXB aXC aXF aXY aXS aXP)
def MO_search (mo_isBoard : Int32) (mo_width : Int32) (mo_height : Int32) (mo_person : Int32) (mo_floor : Int64) (mo_goals : Int64) (mo_boxes : Int64) (mo_thrown : Int32) (mo_many : Int32) (mo_taken : Int32) (mo_length : Int32) (aXB : Nat → Int64) (aXC : Nat → Int32) (aXF : Nat → Int32) (aXY : Nat → Int32) (aXS : Nat → Int32) (aXP : Nat → Int32) (v1 : Int32) (post : Int32 → Int32 → Int32 → Int32 → Int32 → (Nat → Int64) → (Nat → Int32) → (Nat → Int32) → (Nat → Int32) → (Nat → Int32) → (Nat → Int32) → Prop) : Prop :=
  if mo_isBoard = 0 then
  (post (-3 : Int32) (0 : Int32) mo_many mo_taken mo_length aXB aXC aXF aXY aXS aXP)
  else
  (if v1 < (1 : Int32) then
  (post (-3 : Int32) (0 : Int32) mo_many mo_taken mo_length aXB aXC aXF aXY aXS aXP)
  else
  (if v1 ≤ (10000 : Int32) then
  (MO_spread mo_width mo_height mo_person mo_floor mo_goals mo_boxes mo_many aXB aXC aXF aXY aXS v1 (fun r_1 mo_many_2 aXB_3 aXC_4 aXF_5 aXY_6 aXS_7 =>
  if r_1 = (-2 : Int32) then
  (MO_search_48 mo_isBoard mo_width mo_height mo_person mo_floor mo_goals mo_boxes post (0 : Int32) mo_many_2 mo_taken mo_length aXB_3 aXC_4 aXF_5 aXY_6 aXS_7 aXP r_1 v1)
  else
  (MO_search_48 mo_isBoard mo_width mo_height mo_person mo_floor mo_goals mo_boxes post (0 : Int32) mo_many_2 mo_taken mo_length aXB_3 aXC_4 aXF_5 aXY_6 aXS_7 aXP r_1 mo_many_2)))
  else
  (post (-3 : Int32) (0 : Int32) mo_many mo_taken mo_length aXB aXC aXF aXY aXS aXP)))
def MO_push (mo_length : Int32) (aXP : Nat → Int32) (mo_thrown : Int32) (v1 : Int32) (post : Int32 → Int32 → Prop) : Prop :=
  if v1 < 0 then
  (post (-1 : Int32) (0 : Int32))
  else
  (if v1 < mo_length then
  (vp_in v1 10001 ∧
  post (aXP v1.toNatClampNeg) (0 : Int32))
  else
  (post (-1 : Int32) (0 : Int32)))
def MO_states (mo_taken : Int32) (mo_thrown : Int32) (post : Int32 → Int32 → Prop) : Prop :=
  post mo_taken (0 : Int32)
def LW_move (bo_floor : Int64) (bo_boxes : Int64) (bo_person : Int64) (lo_kept : Int32) (lo_moves : Int32) (lo_pushed : Int32) (lo_end : Int32) (aMA : Nat → Int32) (aOUT : Nat → Int64) (v1 : Int32) (post : Int32 → Int64 → Int64 → Int32 → Int32 → Int32 → Int32 → (Nat → Int32) → (Nat → Int64) → Prop) : Prop :=
  PB_move bo_floor bo_boxes bo_person lo_kept lo_moves lo_pushed lo_end aMA v1 (fun r_1 bo_boxes_2 bo_person_3 lo_kept_4 lo_moves_5 lo_pushed_6 lo_end_7 aMA_8 =>
  vp_in (0 : Int32) 1 ∧
  ∀ aOUT_17 : Nat → Int64, aOUT_17 = (vp_updL aOUT (0 : Int32).toNatClampNeg r_1.toInt64) →
  post (0 : Int32) bo_boxes_2 bo_person_3 lo_kept_4 lo_moves_5 lo_pushed_6 lo_end_7 aMA_8 aOUT_17) (fun kd_16 bo_boxes_9 bo_person_10 lo_kept_11 lo_moves_12 lo_pushed_13 lo_end_14 aMA_15 => if kd_16 = (1 : Int32) then
  (post (1 : Int32) bo_boxes_9 bo_person_10 lo_kept_11 lo_moves_12 lo_pushed_13 lo_end_14 aMA_15 aOUT)
  else
  (if kd_16 = (2 : Int32) then
  (post (2 : Int32) bo_boxes_9 bo_person_10 lo_kept_11 lo_moves_12 lo_pushed_13 lo_end_14 aMA_15 aOUT)
  else
  (False)))
def LW_way (bo_width : Int32) (bo_height : Int32) (bo_floor : Int64) (bo_boxes : Int64) (bo_person : Int64) (aOUT : Nat → Int64) (v1 : Int32) (v2 : Int32) (post : Int32 → (Nat → Int64) → Prop) : Prop :=
  PB_way bo_width bo_height bo_floor bo_boxes bo_person v1 v2 (fun r_1 =>
  vp_in (0 : Int32) 1 ∧
  ∀ aOUT_3 : Nat → Int64, aOUT_3 = (vp_updL aOUT (0 : Int32).toNatClampNeg r_1.toInt64) →
  post (0 : Int32) aOUT_3) (fun kd_2 => if kd_2 = (1 : Int32) then
  (post (1 : Int32) aOUT)
  else
  (False))
def LW_dead (bo_width : Int32) (bo_height : Int32) (bo_floor : Int64) (bo_live : Int64) (aOUT : Nat → Int64) (v1 : Int32) (v2 : Int32) (post : Int32 → (Nat → Int64) → Prop) : Prop :=
  PB_dead bo_width bo_height bo_floor bo_live v1 v2 (fun r_1 =>
  if r_1 = 0 then
  (vp_in (0 : Int32) 1 ∧
  ∀ aOUT_3 : Nat → Int64, aOUT_3 = (vp_updL aOUT (0 : Int32).toNatClampNeg (0 : Int64)) →
  post (0 : Int32) aOUT_3)
  else
  (vp_in (0 : Int32) 1 ∧
  ∀ aOUT_4 : Nat → Int64, aOUT_4 = (vp_updL aOUT (0 : Int32).toNatClampNeg (1 : Int64)) →
  post (0 : Int32) aOUT_4)) (fun kd_2 => if kd_2 = (1 : Int32) then
  (post (1 : Int32) aOUT)
  else
  (False))
def LW_pushes (bo_width : Int32) (bo_height : Int32) (bo_floor : Int64) (aBS : Nat → Int32) (aOUT : Nat → Int64) (v1 : Int32) (v2 : Int32) (v3 : Int32) (v4 : Int32) (post : Int32 → (Nat → Int32) → (Nat → Int64) → Prop) : Prop :=
  PB_pushes bo_width bo_height bo_floor aBS v1 v2 v3 v4 (fun r_1 aBS_2 =>
  vp_in (0 : Int32) 1 ∧
  ∀ aOUT_5 : Nat → Int64, aOUT_5 = (vp_updL aOUT (0 : Int32).toNatClampNeg r_1.toInt64) →
  post (0 : Int32) aBS_2 aOUT_5) (fun kd_4 aBS_3 => if kd_4 = (1 : Int32) then
  (post (1 : Int32) aBS_3 aOUT)
  else
  (False))
def LW_law_466 (scr_n : Nat) (aSCR : Nat → Int32) (k23 : Nat → Nat → Int32 → (Nat → Int32) → Int32 → Int32 → Int64 → Int64 → Int64 → Int64 → Int32 → Int32 → Int32 → Int32 → Int64 → Int64 → Int64 → Int64 → Int64 → Int64 → Int64 → (Nat → Int32) → Int32 → Int32 → Int32 → Int32 → (Nat → Int32) → (Nat → Int32) → (Nat → Int32) → (Nat → Int32) → (Nat → Int32) → (Nat → Int32) → (Nat → Int32) → (Nat → Int32) → Int32 → Int32 → Int32 → Int32 → Nat → (Nat → Int64) → Nat → (Nat → Int32) → Nat → (Nat → Int32) → Nat → (Nat → Int32) → Nat → (Nat → Int32) → Int32 → Int32 → Int32 → Int32 → Int32 → Int32 → Int32 → Int32 → Int64 → Int64 → Int64 → Int64 → Int64 → Int64 → Int32 → Int32 → Int32 → Int32 → Int32 → Int32 → (Nat → Int32) → (Nat → Int32) → (Nat → Int64) → (Nat → Int32) → (Nat → Int32) → (Nat → Int32) → (Nat → Int32) → (Nat → Int32) → (Nat → Int32) → (Nat → Int32) → (Nat → Int64) → Int32 → Prop) (post : Int32 → Int32 → (Nat → Int32) → Int32 → Int32 → Int64 → Int64 → Int64 → Int64 → Int32 → Int32 → Int32 → Int32 → Int64 → Int64 → Int64 → Int64 → Int64 → Int64 → Int64 → (Nat → Int32) → Int32 → Int32 → Int32 → Int32 → (Nat → Int32) → (Nat → Int32) → (Nat → Int32) → (Nat → Int32) → (Nat → Int32) → (Nat → Int32) → (Nat → Int32) → (Nat → Int32) → Int32 → Int32 → Int32 → Int32 → Nat → (Nat → Int64) → Nat → (Nat → Int32) → Nat → (Nat → Int32) → Nat → (Nat → Int32) → Nat → (Nat → Int32) → Int32 → Int32 → Int32 → Int32 → Int32 → Int32 → Int32 → Int32 → Int64 → Int64 → Int64 → Int64 → Int64 → Int64 → Int32 → Int32 → Int32 → Int32 → Int32 → Int32 → (Nat → Int32) → (Nat → Int32) → (Nat → Int64) → (Nat → Int32) → (Nat → Int32) → (Nat → Int32) → (Nat → Int32) → (Nat → Int32) → (Nat → Int32) → (Nat → Int32) → (Nat → Int64) → Prop) (bc : Nat) (bs : Nat) (pb_textLength : Int32) (aTX : (Nat → Int32)) (pi_width : Int32) (pi_height : Int32) (pi_walls : Int64) (pi_goals : Int64) (pi_boxes : Int64) (pi_person : Int64) (pi_x : Int32) (pi_endedRows : Int32) (bo_width : Int32) (bo_height : Int32) (bo_floor : Int64) (bo_goals : Int64) (bo_live : Int64) (bo_boxes : Int64) (bo_person : Int64) (bo_liveBesideInRow : Int64) (bo_liveBesideInColumn : Int64) (aBS : (Nat → Int32)) (lo_kept : Int32) (lo_moves : Int32) (lo_pushed : Int32) (lo_end : Int32) (aMA : (Nat → Int32)) (aMC : (Nat → Int32)) (aGL : (Nat → Int32)) (aBL : (Nat → Int32)) (aGB : (Nat → Int32)) (aBB : (Nat → Int32)) (aSK : (Nat → Int32)) (aSN : (Nat → Int32)) (se_count : Int32) (se_length : Int32) (se_found : Int32) (se_overfull : Int32) (sb_n : Nat) (aSB : (Nat → Int64)) (sl_n : Nat) (aSL : (Nat → Int32)) (sp_n : Nat) (aSP : (Nat → Int32)) (su_n : Nat) (aSU : (Nat → Int32)) (ss_n : Nat) (aSS : (Nat → Int32)) (mo_thrown : Int32) (mo_size : Int32) (mo_isBoard : Int32) (mo_width : Int32) (mo_height : Int32) (mo_person : Int32) (mo_moves : Int32) (mo_pushes : Int32) (mo_floor : Int64) (mo_goals : Int64) (mo_boxes : Int64) (mo_newFloor : Int64) (mo_newGoals : Int64) (mo_newBoxes : Int64) (mo_newPerson : Int32) (mo_newWidth : Int32) (mo_kept : Int32) (mo_many : Int32) (mo_taken : Int32) (mo_length : Int32) (aTM : (Nat → Int32)) (aDO : (Nat → Int32)) (aXB : (Nat → Int64)) (aXC : (Nat → Int32)) (aXF : (Nat → Int32)) (aXY : (Nat → Int32)) (aXS : (Nat → Int32)) (aXP : (Nat → Int32)) (aFA : (Nat → Int32)) (aLE : (Nat → Int32)) (aOUT : (Nat → Int64)) (v4 : Int32) (t0 : Int64) (t1 : Int64) : Prop :=
  if t0 = t1 then
  (k23 bc bs pb_textLength aTX pi_width pi_height pi_walls pi_goals pi_boxes pi_person pi_x pi_endedRows bo_width bo_height bo_floor bo_goals bo_live bo_boxes bo_person bo_liveBesideInRow bo_liveBesideInColumn aBS lo_kept lo_moves lo_pushed lo_end aMA aMC aGL aBL aGB aBB aSK aSN se_count se_length se_found se_overfull sb_n aSB sl_n aSL sp_n aSP su_n aSU ss_n aSS mo_thrown mo_size mo_isBoard mo_width mo_height mo_person mo_moves mo_pushes mo_floor mo_goals mo_boxes mo_newFloor mo_newGoals mo_newBoxes mo_newPerson mo_newWidth mo_kept mo_many mo_taken mo_length aTM aDO aXB aXC aXF aXY aXS aXP aFA aLE aOUT (v4 + (5 : Int32)))
  else
  (post (0 : Int32) pb_textLength aTX pi_width pi_height pi_walls pi_goals pi_boxes pi_person pi_x pi_endedRows bo_width bo_height bo_floor bo_goals bo_live bo_boxes bo_person bo_liveBesideInRow bo_liveBesideInColumn aBS lo_kept lo_moves lo_pushed lo_end aMA aMC aGL aBL aGB aBB aSK aSN se_count se_length se_found se_overfull sb_n aSB sl_n aSL sp_n aSP su_n aSU ss_n aSS mo_thrown mo_size mo_isBoard mo_width mo_height mo_person mo_moves mo_pushes mo_floor mo_goals mo_boxes mo_newFloor mo_newGoals mo_newBoxes mo_newPerson mo_newWidth mo_kept mo_many mo_taken mo_length aTM aDO aXB aXC aXF aXY aXS aXP aFA aLE aOUT)
def LW_law_23 (scr_n : Nat) (aSCR : Nat → Int32) (post : Int32 → Int32 → (Nat → Int32) → Int32 → Int32 → Int64 → Int64 → Int64 → Int64 → Int32 → Int32 → Int32 → Int32 → Int64 → Int64 → Int64 → Int64 → Int64 → Int64 → Int64 → (Nat → Int32) → Int32 → Int32 → Int32 → Int32 → (Nat → Int32) → (Nat → Int32) → (Nat → Int32) → (Nat → Int32) → (Nat → Int32) → (Nat → Int32) → (Nat → Int32) → (Nat → Int32) → Int32 → Int32 → Int32 → Int32 → Nat → (Nat → Int64) → Nat → (Nat → Int32) → Nat → (Nat → Int32) → Nat → (Nat → Int32) → Nat → (Nat → Int32) → Int32 → Int32 → Int32 → Int32 → Int32 → Int32 → Int32 → Int32 → Int64 → Int64 → Int64 → Int64 → Int64 → Int64 → Int32 → Int32 → Int32 → Int32 → Int32 → Int32 → (Nat → Int32) → (Nat → Int32) → (Nat → Int64) → (Nat → Int32) → (Nat → Int32) → (Nat → Int32) → (Nat → Int32) → (Nat → Int32) → (Nat → Int32) → (Nat → Int32) → (Nat → Int64) → Prop) : Nat → Nat → Nat → Int32 → (Nat → Int32) → Int32 → Int32 → Int64 → Int64 → Int64 → Int64 → Int32 → Int32 → Int32 → Int32 → Int64 → Int64 → Int64 → Int64 → Int64 → Int64 → Int64 → (Nat → Int32) → Int32 → Int32 → Int32 → Int32 → (Nat → Int32) → (Nat → Int32) → (Nat → Int32) → (Nat → Int32) → (Nat → Int32) → (Nat → Int32) → (Nat → Int32) → (Nat → Int32) → Int32 → Int32 → Int32 → Int32 → Nat → (Nat → Int64) → Nat → (Nat → Int32) → Nat → (Nat → Int32) → Nat → (Nat → Int32) → Nat → (Nat → Int32) → Int32 → Int32 → Int32 → Int32 → Int32 → Int32 → Int32 → Int32 → Int64 → Int64 → Int64 → Int64 → Int64 → Int64 → Int32 → Int32 → Int32 → Int32 → Int32 → Int32 → (Nat → Int32) → (Nat → Int32) → (Nat → Int64) → (Nat → Int32) → (Nat → Int32) → (Nat → Int32) → (Nat → Int32) → (Nat → Int32) → (Nat → Int32) → (Nat → Int32) → (Nat → Int64) → Int32 → Prop
  | 0, _, _, _, _, _, _, _, _, _, _, _, _, _, _, _, _, _, _, _, _, _, _, _, _, _, _, _, _, _, _, _, _, _, _, _, _, _, _, _, _, _, _, _, _, _, _, _, _, _, _, _, _, _, _, _, _, _, _, _, _, _, _, _, _, _, _, _, _, _, _, _, _, _, _, _, _, _, _, _, _ => False
  | n + 1, bc, bs, pb_textLength, aTX, pi_width, pi_height, pi_walls, pi_goals, pi_boxes, pi_person, pi_x, pi_endedRows, bo_width, bo_height, bo_floor, bo_goals, bo_live, bo_boxes, bo_person, bo_liveBesideInRow, bo_liveBesideInColumn, aBS, lo_kept, lo_moves, lo_pushed, lo_end, aMA, aMC, aGL, aBL, aGB, aBB, aSK, aSN, se_count, se_length, se_found, se_overfull, sb_n, aSB, sl_n, aSL, sp_n, aSP, su_n, aSU, ss_n, aSS, mo_thrown, mo_size, mo_isBoard, mo_width, mo_height, mo_person, mo_moves, mo_pushes, mo_floor, mo_goals, mo_boxes, mo_newFloor, mo_newGoals, mo_newBoxes, mo_newPerson, mo_newWidth, mo_kept, mo_many, mo_taken, mo_length, aTM, aDO, aXB, aXC, aXF, aXY, aXS, aXP, aFA, aLE, aOUT, v4 =>
  if ((nI scr_n) - (5 : Int32)) < v4 then
  (post (1 : Int32) pb_textLength aTX pi_width pi_height pi_walls pi_goals pi_boxes pi_person pi_x pi_endedRows bo_width bo_height bo_floor bo_goals bo_live bo_boxes bo_person bo_liveBesideInRow bo_liveBesideInColumn aBS lo_kept lo_moves lo_pushed lo_end aMA aMC aGL aBL aGB aBB aSK aSN se_count se_length se_found se_overfull sb_n aSB sl_n aSL sp_n aSP su_n aSU ss_n aSS mo_thrown mo_size mo_isBoard mo_width mo_height mo_person mo_moves mo_pushes mo_floor mo_goals mo_boxes mo_newFloor mo_newGoals mo_newBoxes mo_newPerson mo_newWidth mo_kept mo_many mo_taken mo_length aTM aDO aXB aXC aXF aXY aXS aXP aFA aLE aOUT)
  else
  (vp_in v4 scr_n ∧
  if ((aSCR v4.toNatClampNeg) &&& (31 : Int32)) = (0 : Int32) then
  (vp_in (v4 + (1 : Int32)) scr_n ∧
  PB_unit pb_textLength aTX (aSCR (v4 + (1 : Int32)).toNatClampNeg) (fun r_1 pb_textLength_2 aTX_3 =>
  vp_in (v4 + (1 : Int32)) scr_n ∧
  MO_unit mo_thrown mo_size aTM (aSCR (v4 + (1 : Int32)).toNatClampNeg) (fun r_4 mo_thrown_5 mo_size_6 aTM_7 =>
  if r_1 = r_4 then
  (LW_law_23 scr_n aSCR post n bc bs pb_textLength_2 aTX_3 pi_width pi_height pi_walls pi_goals pi_boxes pi_person pi_x pi_endedRows bo_width bo_height bo_floor bo_goals bo_live bo_boxes bo_person bo_liveBesideInRow bo_liveBesideInColumn aBS lo_kept lo_moves lo_pushed lo_end aMA aMC aGL aBL aGB aBB aSK aSN se_count se_length se_found se_overfull sb_n aSB sl_n aSL sp_n aSP su_n aSU ss_n aSS mo_thrown_5 mo_size_6 mo_isBoard mo_width mo_height mo_person mo_moves mo_pushes mo_floor mo_goals mo_boxes mo_newFloor mo_newGoals mo_newBoxes mo_newPerson mo_newWidth mo_kept mo_many mo_taken mo_length aTM_7 aDO aXB aXC aXF aXY aXS aXP aFA aLE aOUT (v4 + (5 : Int32)))
  else
  (post (0 : Int32) pb_textLength_2 aTX_3 pi_width pi_height pi_walls pi_goals pi_boxes pi_person pi_x pi_endedRows bo_width bo_height bo_floor bo_goals bo_live bo_boxes bo_person bo_liveBesideInRow bo_liveBesideInColumn aBS lo_kept lo_moves lo_pushed lo_end aMA aMC aGL aBL aGB aBB aSK aSN se_count se_length se_found se_overfull sb_n aSB sl_n aSL sp_n aSP su_n aSU ss_n aSS mo_thrown_5 mo_size_6 mo_isBoard mo_width mo_height mo_person mo_moves mo_pushes mo_floor mo_goals mo_boxes mo_newFloor mo_newGoals mo_newBoxes mo_newPerson mo_newWidth mo_kept mo_many mo_taken mo_length aTM_7 aDO aXB aXC aXF aXY aXS aXP aFA aLE aOUT))))
  else
  (if ((aSCR v4.toNatClampNeg) &&& (31 : Int32)) = (1 : Int32) then
  (PB_read aTX pb_textLength pi_width pi_height pi_walls pi_goals pi_boxes pi_person pi_x pi_endedRows bo_width bo_height bo_floor bo_goals bo_live bo_boxes bo_person bo_liveBesideInRow bo_liveBesideInColumn lo_kept lo_moves lo_pushed lo_end (fun r_8 pb_textLength_9 pi_width_10 pi_height_11 pi_walls_12 pi_goals_13 pi_boxes_14 pi_person_15 pi_x_16 pi_endedRows_17 bo_width_18 bo_height_19 bo_floor_20 bo_goals_21 bo_live_22 bo_boxes_23 bo_person_24 bo_liveBesideInRow_25 bo_liveBesideInColumn_26 lo_kept_27 lo_moves_28 lo_pushed_29 lo_end_30 =>
  MO_read aTM mo_thrown mo_size mo_isBoard mo_width mo_height mo_person mo_moves mo_pushes mo_floor mo_goals mo_boxes mo_newFloor mo_newGoals mo_newBoxes mo_newPerson mo_newWidth mo_kept (fun r_31 mo_thrown_32 mo_size_33 mo_isBoard_34 mo_width_35 mo_height_36 mo_person_37 mo_moves_38 mo_pushes_39 mo_floor_40 mo_goals_41 mo_boxes_42 mo_newFloor_43 mo_newGoals_44 mo_newBoxes_45 mo_newPerson_46 mo_newWidth_47 mo_kept_48 =>
  if r_8 = r_31 then
  (LW_law_23 scr_n aSCR post n bc bs pb_textLength_9 aTX pi_width_10 pi_height_11 pi_walls_12 pi_goals_13 pi_boxes_14 pi_person_15 pi_x_16 pi_endedRows_17 bo_width_18 bo_height_19 bo_floor_20 bo_goals_21 bo_live_22 bo_boxes_23 bo_person_24 bo_liveBesideInRow_25 bo_liveBesideInColumn_26 aBS lo_kept_27 lo_moves_28 lo_pushed_29 lo_end_30 aMA aMC aGL aBL aGB aBB aSK aSN se_count se_length se_found se_overfull sb_n aSB sl_n aSL sp_n aSP su_n aSU ss_n aSS mo_thrown_32 mo_size_33 mo_isBoard_34 mo_width_35 mo_height_36 mo_person_37 mo_moves_38 mo_pushes_39 mo_floor_40 mo_goals_41 mo_boxes_42 mo_newFloor_43 mo_newGoals_44 mo_newBoxes_45 mo_newPerson_46 mo_newWidth_47 mo_kept_48 mo_many mo_taken mo_length aTM aDO aXB aXC aXF aXY aXS aXP aFA aLE aOUT (v4 + (5 : Int32)))
  else
  (post (0 : Int32) pb_textLength_9 aTX pi_width_10 pi_height_11 pi_walls_12 pi_goals_13 pi_boxes_14 pi_person_15 pi_x_16 pi_endedRows_17 bo_width_18 bo_height_19 bo_floor_20 bo_goals_21 bo_live_22 bo_boxes_23 bo_person_24 bo_liveBesideInRow_25 bo_liveBesideInColumn_26 aBS lo_kept_27 lo_moves_28 lo_pushed_29 lo_end_30 aMA aMC aGL aBL aGB aBB aSK aSN se_count se_length se_found se_overfull sb_n aSB sl_n aSL sp_n aSP su_n aSU ss_n aSS mo_thrown_32 mo_size_33 mo_isBoard_34 mo_width_35 mo_height_36 mo_person_37 mo_moves_38 mo_pushes_39 mo_floor_40 mo_goals_41 mo_boxes_42 mo_newFloor_43 mo_newGoals_44 mo_newBoxes_45 mo_newPerson_46 mo_newWidth_47 mo_kept_48 mo_many mo_taken mo_length aTM aDO aXB aXC aXF aXY aXS aXP aFA aLE aOUT))))
  else
  (if ((aSCR v4.toNatClampNeg) &&& (31 : Int32)) = (2 : Int32) then
  (PB_row aTX bo_floor pb_textLength bo_boxes bo_person lo_kept lo_moves lo_pushed lo_end aMA (fun r_49 pb_textLength_50 bo_boxes_51 bo_person_52 lo_kept_53 lo_moves_54 lo_pushed_55 lo_end_56 aMA_57 =>
  MO_row mo_isBoard mo_width mo_height mo_floor aTM mo_thrown mo_size mo_person mo_moves mo_pushes mo_boxes mo_kept aDO (fun r_58 mo_thrown_59 mo_size_60 mo_person_61 mo_moves_62 mo_pushes_63 mo_boxes_64 mo_kept_65 aDO_66 =>
  if r_49 = r_58 then
  (LW_law_23 scr_n aSCR post n bc bs pb_textLength_50 aTX pi_width pi_height pi_walls pi_goals pi_boxes pi_person pi_x pi_endedRows bo_width bo_height bo_floor bo_goals bo_live bo_boxes_51 bo_person_52 bo_liveBesideInRow bo_liveBesideInColumn aBS lo_kept_53 lo_moves_54 lo_pushed_55 lo_end_56 aMA_57 aMC aGL aBL aGB aBB aSK aSN se_count se_length se_found se_overfull sb_n aSB sl_n aSL sp_n aSP su_n aSU ss_n aSS mo_thrown_59 mo_size_60 mo_isBoard mo_width mo_height mo_person_61 mo_moves_62 mo_pushes_63 mo_floor mo_goals mo_boxes_64 mo_newFloor mo_newGoals mo_newBoxes mo_newPerson mo_newWidth mo_kept_65 mo_many mo_taken mo_length aTM aDO_66 aXB aXC aXF aXY aXS aXP aFA aLE aOUT (v4 + (5 : Int32)))
  else
  (post (0 : Int32) pb_textLength_50 aTX pi_width pi_height pi_walls pi_goals pi_boxes pi_person pi_x pi_endedRows bo_width bo_height bo_floor bo_goals bo_live bo_boxes_51 bo_person_52 bo_liveBesideInRow bo_liveBesideInColumn aBS lo_kept_53 lo_moves_54 lo_pushed_55 lo_end_56 aMA_57 aMC aGL aBL aGB aBB aSK aSN se_count se_length se_found se_overfull sb_n aSB sl_n aSL sp_n aSP su_n aSU ss_n aSS mo_thrown_59 mo_size_60 mo_isBoard mo_width mo_height mo_person_61 mo_moves_62 mo_pushes_63 mo_floor mo_goals mo_boxes_64 mo_newFloor mo_newGoals mo_newBoxes mo_newPerson mo_newWidth mo_kept_65 mo_many mo_taken mo_length aTM aDO_66 aXB aXC aXF aXY aXS aXP aFA aLE aOUT))))
  else
  (if ((aSCR v4.toNatClampNeg) &&& (31 : Int32)) = (3 : Int32) then
  (vp_in (v4 + (1 : Int32)) scr_n ∧
  1 ≤ bc ∧ 6 ≤ bs ∧
  LW_move bo_floor bo_boxes bo_person lo_kept lo_moves lo_pushed lo_end aMA aOUT (aSCR (v4 + (1 : Int32)).toNatClampNeg) (fun r_67 bo_boxes_68 bo_person_69 lo_kept_70 lo_moves_71 lo_pushed_72 lo_end_73 aMA_74 aOUT_75 =>
  vp_in (v4 + (1 : Int32)) scr_n ∧
  MO_move mo_isBoard mo_width mo_height mo_floor mo_thrown mo_person mo_moves mo_pushes mo_boxes mo_kept aDO (aSCR (v4 + (1 : Int32)).toNatClampNeg) (fun r_76 mo_thrown_77 mo_person_78 mo_moves_79 mo_pushes_80 mo_boxes_81 mo_kept_82 aDO_83 =>
  MO_thrown mo_thrown_77 (fun r_84 =>
  if r_84 = r_67 then
  (if r_67 = 0 then
  (vp_in (0 : Int32) 1 ∧
  if (aOUT_75 (0 : Int32).toNatClampNeg) = r_76.toInt64 then
  (LW_law_23 scr_n aSCR post n (bc - 1) (bs - 6) pb_textLength aTX pi_width pi_height pi_walls pi_goals pi_boxes pi_person pi_x pi_endedRows bo_width bo_height bo_floor bo_goals bo_live bo_boxes_68 bo_person_69 bo_liveBesideInRow bo_liveBesideInColumn aBS lo_kept_70 lo_moves_71 lo_pushed_72 lo_end_73 aMA_74 aMC aGL aBL aGB aBB aSK aSN se_count se_length se_found se_overfull sb_n aSB sl_n aSL sp_n aSP su_n aSU ss_n aSS mo_thrown_77 mo_size mo_isBoard mo_width mo_height mo_person_78 mo_moves_79 mo_pushes_80 mo_floor mo_goals mo_boxes_81 mo_newFloor mo_newGoals mo_newBoxes mo_newPerson mo_newWidth mo_kept_82 mo_many mo_taken mo_length aTM aDO_83 aXB aXC aXF aXY aXS aXP aFA aLE aOUT_75 (v4 + (5 : Int32)))
  else
  (post (0 : Int32) pb_textLength aTX pi_width pi_height pi_walls pi_goals pi_boxes pi_person pi_x pi_endedRows bo_width bo_height bo_floor bo_goals bo_live bo_boxes_68 bo_person_69 bo_liveBesideInRow bo_liveBesideInColumn aBS lo_kept_70 lo_moves_71 lo_pushed_72 lo_end_73 aMA_74 aMC aGL aBL aGB aBB aSK aSN se_count se_length se_found se_overfull sb_n aSB sl_n aSL sp_n aSP su_n aSU ss_n aSS mo_thrown_77 mo_size mo_isBoard mo_width mo_height mo_person_78 mo_moves_79 mo_pushes_80 mo_floor mo_goals mo_boxes_81 mo_newFloor mo_newGoals mo_newBoxes mo_newPerson mo_newWidth mo_kept_82 mo_many mo_taken mo_length aTM aDO_83 aXB aXC aXF aXY aXS aXP aFA aLE aOUT_75))
  else
  (LW_law_23 scr_n aSCR post n (bc - 1) (bs - 6) pb_textLength aTX pi_width pi_height pi_walls pi_goals pi_boxes pi_person pi_x pi_endedRows bo_width bo_height bo_floor bo_goals bo_live bo_boxes_68 bo_person_69 bo_liveBesideInRow bo_liveBesideInColumn aBS lo_kept_70 lo_moves_71 lo_pushed_72 lo_end_73 aMA_74 aMC aGL aBL aGB aBB aSK aSN se_count se_length se_found se_overfull sb_n aSB sl_n aSL sp_n aSP su_n aSU ss_n aSS mo_thrown_77 mo_size mo_isBoard mo_width mo_height mo_person_78 mo_moves_79 mo_pushes_80 mo_floor mo_goals mo_boxes_81 mo_newFloor mo_newGoals mo_newBoxes mo_newPerson mo_newWidth mo_kept_82 mo_many mo_taken mo_length aTM aDO_83 aXB aXC aXF aXY aXS aXP aFA aLE aOUT_75 (v4 + (5 : Int32))))
  else
  (post (0 : Int32) pb_textLength aTX pi_width pi_height pi_walls pi_goals pi_boxes pi_person pi_x pi_endedRows bo_width bo_height bo_floor bo_goals bo_live bo_boxes_68 bo_person_69 bo_liveBesideInRow bo_liveBesideInColumn aBS lo_kept_70 lo_moves_71 lo_pushed_72 lo_end_73 aMA_74 aMC aGL aBL aGB aBB aSK aSN se_count se_length se_found se_overfull sb_n aSB sl_n aSL sp_n aSP su_n aSU ss_n aSS mo_thrown_77 mo_size mo_isBoard mo_width mo_height mo_person_78 mo_moves_79 mo_pushes_80 mo_floor mo_goals mo_boxes_81 mo_newFloor mo_newGoals mo_newBoxes mo_newPerson mo_newWidth mo_kept_82 mo_many mo_taken mo_length aTM aDO_83 aXB aXC aXF aXY aXS aXP aFA aLE aOUT_75)))))
  else
  (if ((aSCR v4.toNatClampNeg) &&& (31 : Int32)) = (4 : Int32) then
  (PB_undo aMA bo_boxes bo_person lo_kept lo_moves lo_pushed lo_end (fun r_85 bo_boxes_86 bo_person_87 lo_kept_88 lo_moves_89 lo_pushed_90 lo_end_91 =>
  MO_undo mo_width mo_height aDO mo_thrown mo_person mo_moves mo_pushes mo_boxes mo_kept (fun r_92 mo_thrown_93 mo_person_94 mo_moves_95 mo_pushes_96 mo_boxes_97 mo_kept_98 =>
  if r_85 = r_92 then
  (LW_law_23 scr_n aSCR post n bc bs pb_textLength aTX pi_width pi_height pi_walls pi_goals pi_boxes pi_person pi_x pi_endedRows bo_width bo_height bo_floor bo_goals bo_live bo_boxes_86 bo_person_87 bo_liveBesideInRow bo_liveBesideInColumn aBS lo_kept_88 lo_moves_89 lo_pushed_90 lo_end_91 aMA aMC aGL aBL aGB aBB aSK aSN se_count se_length se_found se_overfull sb_n aSB sl_n aSL sp_n aSP su_n aSU ss_n aSS mo_thrown_93 mo_size mo_isBoard mo_width mo_height mo_person_94 mo_moves_95 mo_pushes_96 mo_floor mo_goals mo_boxes_97 mo_newFloor mo_newGoals mo_newBoxes mo_newPerson mo_newWidth mo_kept_98 mo_many mo_taken mo_length aTM aDO aXB aXC aXF aXY aXS aXP aFA aLE aOUT (v4 + (5 : Int32)))
  else
  (post (0 : Int32) pb_textLength aTX pi_width pi_height pi_walls pi_goals pi_boxes pi_person pi_x pi_endedRows bo_width bo_height bo_floor bo_goals bo_live bo_boxes_86 bo_person_87 bo_liveBesideInRow bo_liveBesideInColumn aBS lo_kept_88 lo_moves_89 lo_pushed_90 lo_end_91 aMA aMC aGL aBL aGB aBB aSK aSN se_count se_length se_found se_overfull sb_n aSB sl_n aSL sp_n aSP su_n aSU ss_n aSS mo_thrown_93 mo_size mo_isBoard mo_width mo_height mo_person_94 mo_moves_95 mo_pushes_96 mo_floor mo_goals mo_boxes_97 mo_newFloor mo_newGoals mo_newBoxes mo_newPerson mo_newWidth mo_kept_98 mo_many mo_taken mo_length aTM aDO aXB aXC aXF aXY aXS aXP aFA aLE aOUT))))
  else
  (if ((aSCR v4.toNatClampNeg) &&& (31 : Int32)) = (5 : Int32) then
  (vp_in (v4 + (1 : Int32)) scr_n ∧
  PB_told bo_width bo_height bo_goals bo_boxes bo_person lo_moves lo_pushed (aSCR (v4 + (1 : Int32)).toNatClampNeg) (fun r_99 =>
  vp_in (v4 + (1 : Int32)) scr_n ∧
  MO_told mo_isBoard mo_width mo_height mo_person mo_moves mo_pushes mo_goals mo_boxes mo_thrown (aSCR (v4 + (1 : Int32)).toNatClampNeg) (fun r_100 mo_thrown_101 =>
  if r_99 = r_100 then
  (LW_law_23 scr_n aSCR post n bc bs pb_textLength aTX pi_width pi_height pi_walls pi_goals pi_boxes pi_person pi_x pi_endedRows bo_width bo_height bo_floor bo_goals bo_live bo_boxes bo_person bo_liveBesideInRow bo_liveBesideInColumn aBS lo_kept lo_moves lo_pushed lo_end aMA aMC aGL aBL aGB aBB aSK aSN se_count se_length se_found se_overfull sb_n aSB sl_n aSL sp_n aSP su_n aSU ss_n aSS mo_thrown_101 mo_size mo_isBoard mo_width mo_height mo_person mo_moves mo_pushes mo_floor mo_goals mo_boxes mo_newFloor mo_newGoals mo_newBoxes mo_newPerson mo_newWidth mo_kept mo_many mo_taken mo_length aTM aDO aXB aXC aXF aXY aXS aXP aFA aLE aOUT (v4 + (5 : Int32)))
  else
  (post (0 : Int32) pb_textLength aTX pi_width pi_height pi_walls pi_goals pi_boxes pi_person pi_x pi_endedRows bo_width bo_height bo_floor bo_goals bo_live bo_boxes bo_person bo_liveBesideInRow bo_liveBesideInColumn aBS lo_kept lo_moves lo_pushed lo_end aMA aMC aGL aBL aGB aBB aSK aSN se_count se_length se_found se_overfull sb_n aSB sl_n aSL sp_n aSP su_n aSU ss_n aSS mo_thrown_101 mo_size mo_isBoard mo_width mo_height mo_person mo_moves mo_pushes mo_floor mo_goals mo_boxes mo_newFloor mo_newGoals mo_newBoxes mo_newPerson mo_newWidth mo_kept mo_many mo_taken mo_length aTM aDO aXB aXC aXF aXY aXS aXP aFA aLE aOUT))))
  else
  (if ((aSCR v4.toNatClampNeg) &&& (31 : Int32)) = (6 : Int32) then
  (vp_in (v4 + (1 : Int32)) scr_n ∧
  PB_picture bo_width bo_height bo_floor bo_goals bo_boxes bo_person (aSCR (v4 + (1 : Int32)).toNatClampNeg) (fun r_102 =>
  vp_in (v4 + (1 : Int32)) scr_n ∧
  MO_picture mo_width mo_height mo_person mo_floor mo_goals mo_boxes mo_thrown (aSCR (v4 + (1 : Int32)).toNatClampNeg) (fun r_103 mo_thrown_104 =>
  if r_102 = r_103 then
  (LW_law_23 scr_n aSCR post n bc bs pb_textLength aTX pi_width pi_height pi_walls pi_goals pi_boxes pi_person pi_x pi_endedRows bo_width bo_height bo_floor bo_goals bo_live bo_boxes bo_person bo_liveBesideInRow bo_liveBesideInColumn aBS lo_kept lo_moves lo_pushed lo_end aMA aMC aGL aBL aGB aBB aSK aSN se_count se_length se_found se_overfull sb_n aSB sl_n aSL sp_n aSP su_n aSU ss_n aSS mo_thrown_104 mo_size mo_isBoard mo_width mo_height mo_person mo_moves mo_pushes mo_floor mo_goals mo_boxes mo_newFloor mo_newGoals mo_newBoxes mo_newPerson mo_newWidth mo_kept mo_many mo_taken mo_length aTM aDO aXB aXC aXF aXY aXS aXP aFA aLE aOUT (v4 + (5 : Int32)))
  else
  (post (0 : Int32) pb_textLength aTX pi_width pi_height pi_walls pi_goals pi_boxes pi_person pi_x pi_endedRows bo_width bo_height bo_floor bo_goals bo_live bo_boxes bo_person bo_liveBesideInRow bo_liveBesideInColumn aBS lo_kept lo_moves lo_pushed lo_end aMA aMC aGL aBL aGB aBB aSK aSN se_count se_length se_found se_overfull sb_n aSB sl_n aSL sp_n aSP su_n aSU ss_n aSS mo_thrown_104 mo_size mo_isBoard mo_width mo_height mo_person mo_moves mo_pushes mo_floor mo_goals mo_boxes mo_newFloor mo_newGoals mo_newBoxes mo_newPerson mo_newWidth mo_kept mo_many mo_taken mo_length aTM aDO aXB aXC aXF aXY aXS aXP aFA aLE aOUT))))
  else
  (if ((aSCR v4.toNatClampNeg) &&& (31 : Int32)) = (7 : Int32) then
  (vp_in (v4 + (1 : Int32)) scr_n ∧
  PB_letter lo_kept lo_end aMA (aSCR (v4 + (1 : Int32)).toNatClampNeg) (fun r_105 =>
  vp_in (v4 + (1 : Int32)) scr_n ∧
  MO_letter mo_kept aDO mo_thrown (aSCR (v4 + (1 : Int32)).toNatClampNeg) (fun r_106 mo_thrown_107 =>
  if r_105 = r_106 then
  (LW_law_23 scr_n aSCR post n bc bs pb_textLength aTX pi_width pi_height pi_walls pi_goals pi_boxes pi_person pi_x pi_endedRows bo_width bo_height bo_floor bo_goals bo_live bo_boxes bo_person bo_liveBesideInRow bo_liveBesideInColumn aBS lo_kept lo_moves lo_pushed lo_end aMA aMC aGL aBL aGB aBB aSK aSN se_count se_length se_found se_overfull sb_n aSB sl_n aSL sp_n aSP su_n aSU ss_n aSS mo_thrown_107 mo_size mo_isBoard mo_width mo_height mo_person mo_moves mo_pushes mo_floor mo_goals mo_boxes mo_newFloor mo_newGoals mo_newBoxes mo_newPerson mo_newWidth mo_kept mo_many mo_taken mo_length aTM aDO aXB aXC aXF aXY aXS aXP aFA aLE aOUT (v4 + (5 : Int32)))
  else
  (post (0 : Int32) pb_textLength aTX pi_width pi_height pi_walls pi_goals pi_boxes pi_person pi_x pi_endedRows bo_width bo_height bo_floor bo_goals bo_live bo_boxes bo_person bo_liveBesideInRow bo_liveBesideInColumn aBS lo_kept lo_moves lo_pushed lo_end aMA aMC aGL aBL aGB aBB aSK aSN se_count se_length se_found se_overfull sb_n aSB sl_n aSL sp_n aSP su_n aSU ss_n aSS mo_thrown_107 mo_size mo_isBoard mo_width mo_height mo_person mo_moves mo_pushes mo_floor mo_goals mo_boxes mo_newFloor mo_newGoals mo_newBoxes mo_newPerson mo_newWidth mo_kept mo_many mo_taken mo_length aTM aDO aXB aXC aXF aXY aXS aXP aFA aLE aOUT))))
  else
  (if ((aSCR v4.toNatClampNeg) &&& (31 : Int32)) = (8 : Int32) then
  (PB_reach bo_floor bo_boxes bo_person (fun r_108 =>
  MO_reach mo_isBoard mo_width mo_height mo_person mo_floor mo_boxes mo_thrown (fun r_109 mo_thrown_110 =>
  if r_108 = r_109 then
  (LW_law_23 scr_n aSCR post n bc bs pb_textLength aTX pi_width pi_height pi_walls pi_goals pi_boxes pi_person pi_x pi_endedRows bo_width bo_height bo_floor bo_goals bo_live bo_boxes bo_person bo_liveBesideInRow bo_liveBesideInColumn aBS lo_kept lo_moves lo_pushed lo_end aMA aMC aGL aBL aGB aBB aSK aSN se_count se_length se_found se_overfull sb_n aSB sl_n aSL sp_n aSP su_n aSU ss_n aSS mo_thrown_110 mo_size mo_isBoard mo_width mo_height mo_person mo_moves mo_pushes mo_floor mo_goals mo_boxes mo_newFloor mo_newGoals mo_newBoxes mo_newPerson mo_newWidth mo_kept mo_many mo_taken mo_length aTM aDO aXB aXC aXF aXY aXS aXP aFA aLE aOUT (v4 + (5 : Int32)))
  else
  (post (0 : Int32) pb_textLength aTX pi_width pi_height pi_walls pi_goals pi_boxes pi_person pi_x pi_endedRows bo_width bo_height bo_floor bo_goals bo_live bo_boxes bo_person bo_liveBesideInRow bo_liveBesideInColumn aBS lo_kept lo_moves lo_pushed lo_end aMA aMC aGL aBL aGB aBB aSK aSN se_count se_length se_found se_overfull sb_n aSB sl_n aSL sp_n aSP su_n aSU ss_n aSS mo_thrown_110 mo_size mo_isBoard mo_width mo_height mo_person mo_moves mo_pushes mo_floor mo_goals mo_boxes mo_newFloor mo_newGoals mo_newBoxes mo_newPerson mo_newWidth mo_kept mo_many mo_taken mo_length aTM aDO aXB aXC aXF aXY aXS aXP aFA aLE aOUT))))
  else
  (if ((aSCR v4.toNatClampNeg) &&& (31 : Int32)) = (9 : Int32) then
  (vp_in (v4 + (1 : Int32)) scr_n ∧
  vp_in (v4 + (2 : Int32)) scr_n ∧
  1 ≤ bc ∧ 6 ≤ bs ∧
  LW_way bo_width bo_height bo_floor bo_boxes bo_person aOUT (aSCR (v4 + (1 : Int32)).toNatClampNeg) (aSCR (v4 + (2 : Int32)).toNatClampNeg) (fun r_111 aOUT_112 =>
  vp_in (v4 + (1 : Int32)) scr_n ∧
  vp_in (v4 + (2 : Int32)) scr_n ∧
  MO_way mo_width mo_height mo_person mo_floor mo_boxes mo_thrown aFA (aSCR (v4 + (1 : Int32)).toNatClampNeg) (aSCR (v4 + (2 : Int32)).toNatClampNeg) (fun r_113 mo_thrown_114 aFA_115 =>
  MO_thrown mo_thrown_114 (fun r_116 =>
  if r_116 = r_111 then
  (if r_111 = 0 then
  (vp_in (0 : Int32) 1 ∧
  if (aOUT_112 (0 : Int32).toNatClampNeg) = r_113.toInt64 then
  (LW_law_23 scr_n aSCR post n (bc - 1) (bs - 6) pb_textLength aTX pi_width pi_height pi_walls pi_goals pi_boxes pi_person pi_x pi_endedRows bo_width bo_height bo_floor bo_goals bo_live bo_boxes bo_person bo_liveBesideInRow bo_liveBesideInColumn aBS lo_kept lo_moves lo_pushed lo_end aMA aMC aGL aBL aGB aBB aSK aSN se_count se_length se_found se_overfull sb_n aSB sl_n aSL sp_n aSP su_n aSU ss_n aSS mo_thrown_114 mo_size mo_isBoard mo_width mo_height mo_person mo_moves mo_pushes mo_floor mo_goals mo_boxes mo_newFloor mo_newGoals mo_newBoxes mo_newPerson mo_newWidth mo_kept mo_many mo_taken mo_length aTM aDO aXB aXC aXF aXY aXS aXP aFA_115 aLE aOUT_112 (v4 + (5 : Int32)))
  else
  (post (0 : Int32) pb_textLength aTX pi_width pi_height pi_walls pi_goals pi_boxes pi_person pi_x pi_endedRows bo_width bo_height bo_floor bo_goals bo_live bo_boxes bo_person bo_liveBesideInRow bo_liveBesideInColumn aBS lo_kept lo_moves lo_pushed lo_end aMA aMC aGL aBL aGB aBB aSK aSN se_count se_length se_found se_overfull sb_n aSB sl_n aSL sp_n aSP su_n aSU ss_n aSS mo_thrown_114 mo_size mo_isBoard mo_width mo_height mo_person mo_moves mo_pushes mo_floor mo_goals mo_boxes mo_newFloor mo_newGoals mo_newBoxes mo_newPerson mo_newWidth mo_kept mo_many mo_taken mo_length aTM aDO aXB aXC aXF aXY aXS aXP aFA_115 aLE aOUT_112))
  else
  (LW_law_23 scr_n aSCR post n (bc - 1) (bs - 6) pb_textLength aTX pi_width pi_height pi_walls pi_goals pi_boxes pi_person pi_x pi_endedRows bo_width bo_height bo_floor bo_goals bo_live bo_boxes bo_person bo_liveBesideInRow bo_liveBesideInColumn aBS lo_kept lo_moves lo_pushed lo_end aMA aMC aGL aBL aGB aBB aSK aSN se_count se_length se_found se_overfull sb_n aSB sl_n aSL sp_n aSP su_n aSU ss_n aSS mo_thrown_114 mo_size mo_isBoard mo_width mo_height mo_person mo_moves mo_pushes mo_floor mo_goals mo_boxes mo_newFloor mo_newGoals mo_newBoxes mo_newPerson mo_newWidth mo_kept mo_many mo_taken mo_length aTM aDO aXB aXC aXF aXY aXS aXP aFA_115 aLE aOUT_112 (v4 + (5 : Int32))))
  else
  (post (0 : Int32) pb_textLength aTX pi_width pi_height pi_walls pi_goals pi_boxes pi_person pi_x pi_endedRows bo_width bo_height bo_floor bo_goals bo_live bo_boxes bo_person bo_liveBesideInRow bo_liveBesideInColumn aBS lo_kept lo_moves lo_pushed lo_end aMA aMC aGL aBL aGB aBB aSK aSN se_count se_length se_found se_overfull sb_n aSB sl_n aSL sp_n aSP su_n aSU ss_n aSS mo_thrown_114 mo_size mo_isBoard mo_width mo_height mo_person mo_moves mo_pushes mo_floor mo_goals mo_boxes mo_newFloor mo_newGoals mo_newBoxes mo_newPerson mo_newWidth mo_kept mo_many mo_taken mo_length aTM aDO aXB aXC aXF aXY aXS aXP aFA_115 aLE aOUT_112)))))
  else
  (if ((aSCR v4.toNatClampNeg) &&& (31 : Int32)) = (10 : Int32) then
  (vp_in (v4 + (1 : Int32)) scr_n ∧
  vp_in (v4 + (2 : Int32)) scr_n ∧
  1 ≤ bc ∧ 6 ≤ bs ∧
  LW_dead bo_width bo_height bo_floor bo_live aOUT (aSCR (v4 + (1 : Int32)).toNatClampNeg) (aSCR (v4 + (2 : Int32)).toNatClampNeg) (fun r_117 aOUT_118 =>
  vp_in (v4 + (1 : Int32)) scr_n ∧
  vp_in (v4 + (2 : Int32)) scr_n ∧
  MO_dead mo_width mo_height mo_floor mo_goals mo_thrown (aSCR (v4 + (1 : Int32)).toNatClampNeg) (aSCR (v4 + (2 : Int32)).toNatClampNeg) (fun r_119 mo_thrown_120 =>
  MO_thrown mo_thrown_120 (fun r_121 =>
  if r_121 = r_117 then
  (if r_117 = 0 then
  (vp_in (0 : Int32) 1 ∧
  if r_119 = 0 then
  (LW_law_466 scr_n aSCR (fun bc' bs' pb_textLength' aTX' pi_width' pi_height' pi_walls' pi_goals' pi_boxes' pi_person' pi_x' pi_endedRows' bo_width' bo_height' bo_floor' bo_goals' bo_live' bo_boxes' bo_person' bo_liveBesideInRow' bo_liveBesideInColumn' aBS' lo_kept' lo_moves' lo_pushed' lo_end' aMA' aMC' aGL' aBL' aGB' aBB' aSK' aSN' se_count' se_length' se_found' se_overfull' sb_n' aSB' sl_n' aSL' sp_n' aSP' su_n' aSU' ss_n' aSS' mo_thrown' mo_size' mo_isBoard' mo_width' mo_height' mo_person' mo_moves' mo_pushes' mo_floor' mo_goals' mo_boxes' mo_newFloor' mo_newGoals' mo_newBoxes' mo_newPerson' mo_newWidth' mo_kept' mo_many' mo_taken' mo_length' aTM' aDO' aXB' aXC' aXF' aXY' aXS' aXP' aFA' aLE' aOUT' v4' => LW_law_23 scr_n aSCR post n bc' bs' pb_textLength' aTX' pi_width' pi_height' pi_walls' pi_goals' pi_boxes' pi_person' pi_x' pi_endedRows' bo_width' bo_height' bo_floor' bo_goals' bo_live' bo_boxes' bo_person' bo_liveBesideInRow' bo_liveBesideInColumn' aBS' lo_kept' lo_moves' lo_pushed' lo_end' aMA' aMC' aGL' aBL' aGB' aBB' aSK' aSN' se_count' se_length' se_found' se_overfull' sb_n' aSB' sl_n' aSL' sp_n' aSP' su_n' aSU' ss_n' aSS' mo_thrown' mo_size' mo_isBoard' mo_width' mo_height' mo_person' mo_moves' mo_pushes' mo_floor' mo_goals' mo_boxes' mo_newFloor' mo_newGoals' mo_newBoxes' mo_newPerson' mo_newWidth' mo_kept' mo_many' mo_taken' mo_length' aTM' aDO' aXB' aXC' aXF' aXY' aXS' aXP' aFA' aLE' aOUT' v4') post (bc - 1) (bs - 6) pb_textLength aTX pi_width pi_height pi_walls pi_goals pi_boxes pi_person pi_x pi_endedRows bo_width bo_height bo_floor bo_goals bo_live bo_boxes bo_person bo_liveBesideInRow bo_liveBesideInColumn aBS lo_kept lo_moves lo_pushed lo_end aMA aMC aGL aBL aGB aBB aSK aSN se_count se_length se_found se_overfull sb_n aSB sl_n aSL sp_n aSP su_n aSU ss_n aSS mo_thrown_120 mo_size mo_isBoard mo_width mo_height mo_person mo_moves mo_pushes mo_floor mo_goals mo_boxes mo_newFloor mo_newGoals mo_newBoxes mo_newPerson mo_newWidth mo_kept mo_many mo_taken mo_length aTM aDO aXB aXC aXF aXY aXS aXP aFA aLE aOUT_118 v4 (aOUT_118 (0 : Int32).toNatClampNeg) (0 : Int64))
  else
  (LW_law_466 scr_n aSCR (fun bc' bs' pb_textLength' aTX' pi_width' pi_height' pi_walls' pi_goals' pi_boxes' pi_person' pi_x' pi_endedRows' bo_width' bo_height' bo_floor' bo_goals' bo_live' bo_boxes' bo_person' bo_liveBesideInRow' bo_liveBesideInColumn' aBS' lo_kept' lo_moves' lo_pushed' lo_end' aMA' aMC' aGL' aBL' aGB' aBB' aSK' aSN' se_count' se_length' se_found' se_overfull' sb_n' aSB' sl_n' aSL' sp_n' aSP' su_n' aSU' ss_n' aSS' mo_thrown' mo_size' mo_isBoard' mo_width' mo_height' mo_person' mo_moves' mo_pushes' mo_floor' mo_goals' mo_boxes' mo_newFloor' mo_newGoals' mo_newBoxes' mo_newPerson' mo_newWidth' mo_kept' mo_many' mo_taken' mo_length' aTM' aDO' aXB' aXC' aXF' aXY' aXS' aXP' aFA' aLE' aOUT' v4' => LW_law_23 scr_n aSCR post n bc' bs' pb_textLength' aTX' pi_width' pi_height' pi_walls' pi_goals' pi_boxes' pi_person' pi_x' pi_endedRows' bo_width' bo_height' bo_floor' bo_goals' bo_live' bo_boxes' bo_person' bo_liveBesideInRow' bo_liveBesideInColumn' aBS' lo_kept' lo_moves' lo_pushed' lo_end' aMA' aMC' aGL' aBL' aGB' aBB' aSK' aSN' se_count' se_length' se_found' se_overfull' sb_n' aSB' sl_n' aSL' sp_n' aSP' su_n' aSU' ss_n' aSS' mo_thrown' mo_size' mo_isBoard' mo_width' mo_height' mo_person' mo_moves' mo_pushes' mo_floor' mo_goals' mo_boxes' mo_newFloor' mo_newGoals' mo_newBoxes' mo_newPerson' mo_newWidth' mo_kept' mo_many' mo_taken' mo_length' aTM' aDO' aXB' aXC' aXF' aXY' aXS' aXP' aFA' aLE' aOUT' v4') post (bc - 1) (bs - 6) pb_textLength aTX pi_width pi_height pi_walls pi_goals pi_boxes pi_person pi_x pi_endedRows bo_width bo_height bo_floor bo_goals bo_live bo_boxes bo_person bo_liveBesideInRow bo_liveBesideInColumn aBS lo_kept lo_moves lo_pushed lo_end aMA aMC aGL aBL aGB aBB aSK aSN se_count se_length se_found se_overfull sb_n aSB sl_n aSL sp_n aSP su_n aSU ss_n aSS mo_thrown_120 mo_size mo_isBoard mo_width mo_height mo_person mo_moves mo_pushes mo_floor mo_goals mo_boxes mo_newFloor mo_newGoals mo_newBoxes mo_newPerson mo_newWidth mo_kept mo_many mo_taken mo_length aTM aDO aXB aXC aXF aXY aXS aXP aFA aLE aOUT_118 v4 (aOUT_118 (0 : Int32).toNatClampNeg) (1 : Int64)))
  else
  (LW_law_23 scr_n aSCR post n (bc - 1) (bs - 6) pb_textLength aTX pi_width pi_height pi_walls pi_goals pi_boxes pi_person pi_x pi_endedRows bo_width bo_height bo_floor bo_goals bo_live bo_boxes bo_person bo_liveBesideInRow bo_liveBesideInColumn aBS lo_kept lo_moves lo_pushed lo_end aMA aMC aGL aBL aGB aBB aSK aSN se_count se_length se_found se_overfull sb_n aSB sl_n aSL sp_n aSP su_n aSU ss_n aSS mo_thrown_120 mo_size mo_isBoard mo_width mo_height mo_person mo_moves mo_pushes mo_floor mo_goals mo_boxes mo_newFloor mo_newGoals mo_newBoxes mo_newPerson mo_newWidth mo_kept mo_many mo_taken mo_length aTM aDO aXB aXC aXF aXY aXS aXP aFA aLE aOUT_118 (v4 + (5 : Int32))))
  else
  (post (0 : Int32) pb_textLength aTX pi_width pi_height pi_walls pi_goals pi_boxes pi_person pi_x pi_endedRows bo_width bo_height bo_floor bo_goals bo_live bo_boxes bo_person bo_liveBesideInRow bo_liveBesideInColumn aBS lo_kept lo_moves lo_pushed lo_end aMA aMC aGL aBL aGB aBB aSK aSN se_count se_length se_found se_overfull sb_n aSB sl_n aSL sp_n aSP su_n aSU ss_n aSS mo_thrown_120 mo_size mo_isBoard mo_width mo_height mo_person mo_moves mo_pushes mo_floor mo_goals mo_boxes mo_newFloor mo_newGoals mo_newBoxes mo_newPerson mo_newWidth mo_kept mo_many mo_taken mo_length aTM aDO aXB aXC aXF aXY aXS aXP aFA aLE aOUT_118)))))
  else
  (if ((aSCR v4.toNatClampNeg) &&& (31 : Int32)) = (11 : Int32) then
  (PB_fast bo_floor bo_boxes bo_liveBesideInRow bo_liveBesideInColumn (fun r_122 =>
  MO_fast mo_width mo_height mo_floor mo_goals mo_boxes mo_thrown (fun r_123 mo_thrown_124 =>
  if r_122 = r_123 then
  (LW_law_23 scr_n aSCR post n bc bs pb_textLength aTX pi_width pi_height pi_walls pi_goals pi_boxes pi_person pi_x pi_endedRows bo_width bo_height bo_floor bo_goals bo_live bo_boxes bo_person bo_liveBesideInRow bo_liveBesideInColumn aBS lo_kept lo_moves lo_pushed lo_end aMA aMC aGL aBL aGB aBB aSK aSN se_count se_length se_found se_overfull sb_n aSB sl_n aSL sp_n aSP su_n aSU ss_n aSS mo_thrown_124 mo_size mo_isBoard mo_width mo_height mo_person mo_moves mo_pushes mo_floor mo_goals mo_boxes mo_newFloor mo_newGoals mo_newBoxes mo_newPerson mo_newWidth mo_kept mo_many mo_taken mo_length aTM aDO aXB aXC aXF aXY aXS aXP aFA aLE aOUT (v4 + (5 : Int32)))
  else
  (post (0 : Int32) pb_textLength aTX pi_width pi_height pi_walls pi_goals pi_boxes pi_person pi_x pi_endedRows bo_width bo_height bo_floor bo_goals bo_live bo_boxes bo_person bo_liveBesideInRow bo_liveBesideInColumn aBS lo_kept lo_moves lo_pushed lo_end aMA aMC aGL aBL aGB aBB aSK aSN se_count se_length se_found se_overfull sb_n aSB sl_n aSL sp_n aSP su_n aSU ss_n aSS mo_thrown_124 mo_size mo_isBoard mo_width mo_height mo_person mo_moves mo_pushes mo_floor mo_goals mo_boxes mo_newFloor mo_newGoals mo_newBoxes mo_newPerson mo_newWidth mo_kept mo_many mo_taken mo_length aTM aDO aXB aXC aXF aXY aXS aXP aFA aLE aOUT))))
  else
  (if ((aSCR v4.toNatClampNeg) &&& (31 : Int32)) = (12 : Int32) then
  (PB_stuck bo_floor bo_goals bo_boxes bo_liveBesideInRow bo_liveBesideInColumn (fun r_125 =>
  MO_stuck mo_width mo_height mo_floor mo_goals mo_boxes mo_thrown (fun r_126 mo_thrown_127 =>
  if r_125 = r_126 then
  (LW_law_23 scr_n aSCR post n bc bs pb_textLength aTX pi_width pi_height pi_walls pi_goals pi_boxes pi_person pi_x pi_endedRows bo_width bo_height bo_floor bo_goals bo_live bo_boxes bo_person bo_liveBesideInRow bo_liveBesideInColumn aBS lo_kept lo_moves lo_pushed lo_end aMA aMC aGL aBL aGB aBB aSK aSN se_count se_length se_found se_overfull sb_n aSB sl_n aSL sp_n aSP su_n aSU ss_n aSS mo_thrown_127 mo_size mo_isBoard mo_width mo_height mo_person mo_moves mo_pushes mo_floor mo_goals mo_boxes mo_newFloor mo_newGoals mo_newBoxes mo_newPerson mo_newWidth mo_kept mo_many mo_taken mo_length aTM aDO aXB aXC aXF aXY aXS aXP aFA aLE aOUT (v4 + (5 : Int32)))
  else
  (post (0 : Int32) pb_textLength aTX pi_width pi_height pi_walls pi_goals pi_boxes pi_person pi_x pi_endedRows bo_width bo_height bo_floor bo_goals bo_live bo_boxes bo_person bo_liveBesideInRow bo_liveBesideInColumn aBS lo_kept lo_moves lo_pushed lo_end aMA aMC aGL aBL aGB aBB aSK aSN se_count se_length se_found se_overfull sb_n aSB sl_n aSL sp_n aSP su_n aSU ss_n aSS mo_thrown_127 mo_size mo_isBoard mo_width mo_height mo_person mo_moves mo_pushes mo_floor mo_goals mo_boxes mo_newFloor mo_newGoals mo_newBoxes mo_newPerson mo_newWidth mo_kept mo_many mo_taken mo_length aTM aDO aXB aXC aXF aXY aXS aXP aFA aLE aOUT))))
  else
  (if ((aSCR v4.toNatClampNeg) &&& (31 : Int32)) = (13 : Int32) then
  (PB_bound bo_floor bo_goals bo_boxes aBS aMC aGL aBL aGB aBB aSK aSN (fun r_128 aBS_129 aMC_130 aGL_131 aBL_132 aGB_133 aBB_134 aSK_135 aSN_136 =>
  MO_bound mo_width mo_height mo_floor mo_goals mo_boxes mo_thrown aFA aLE (fun r_137 mo_thrown_138 aFA_139 aLE_140 =>
  if r_128 = r_137 then
  (LW_law_23 scr_n aSCR post n bc bs pb_textLength aTX pi_width pi_height pi_walls pi_goals pi_boxes pi_person pi_x pi_endedRows bo_width bo_height bo_floor bo_goals bo_live bo_boxes bo_person bo_liveBesideInRow bo_liveBesideInColumn aBS_129 lo_kept lo_moves lo_pushed lo_end aMA aMC_130 aGL_131 aBL_132 aGB_133 aBB_134 aSK_135 aSN_136 se_count se_length se_found se_overfull sb_n aSB sl_n aSL sp_n aSP su_n aSU ss_n aSS mo_thrown_138 mo_size mo_isBoard mo_width mo_height mo_person mo_moves mo_pushes mo_floor mo_goals mo_boxes mo_newFloor mo_newGoals mo_newBoxes mo_newPerson mo_newWidth mo_kept mo_many mo_taken mo_length aTM aDO aXB aXC aXF aXY aXS aXP aFA_139 aLE_140 aOUT (v4 + (5 : Int32)))
  else
  (post (0 : Int32) pb_textLength aTX pi_width pi_height pi_walls pi_goals pi_boxes pi_person pi_x pi_endedRows bo_width bo_height bo_floor bo_goals bo_live bo_boxes bo_person bo_liveBesideInRow bo_liveBesideInColumn aBS_129 lo_kept lo_moves lo_pushed lo_end aMA aMC_130 aGL_131 aBL_132 aGB_133 aBB_134 aSK_135 aSN_136 se_count se_length se_found se_overfull sb_n aSB sl_n aSL sp_n aSP su_n aSU ss_n aSS mo_thrown_138 mo_size mo_isBoard mo_width mo_height mo_person mo_moves mo_pushes mo_floor mo_goals mo_boxes mo_newFloor mo_newGoals mo_newBoxes mo_newPerson mo_newWidth mo_kept mo_many mo_taken mo_length aTM aDO aXB aXC aXF aXY aXS aXP aFA_139 aLE_140 aOUT))))
  else
  (if ((aSCR v4.toNatClampNeg) &&& (31 : Int32)) = (14 : Int32) then
  (vp_in (v4 + (1 : Int32)) scr_n ∧
  vp_in (v4 + (2 : Int32)) scr_n ∧
  vp_in (v4 + (3 : Int32)) scr_n ∧
  vp_in (v4 + (4 : Int32)) scr_n ∧
  2 ≤ bc ∧ 12 ≤ bs ∧
  LW_pushes bo_width bo_height bo_floor aBS aOUT (aSCR (v4 + (1 : Int32)).toNatClampNeg) (aSCR (v4 + (2 : Int32)).toNatClampNeg) (aSCR (v4 + (3 : Int32)).toNatClampNeg) (aSCR (v4 + (4 : Int32)).toNatClampNeg) (fun r_141 aBS_142 aOUT_143 =>
  vp_in (v4 + (1 : Int32)) scr_n ∧
  vp_in (v4 + (2 : Int32)) scr_n ∧
  vp_in (v4 + (3 : Int32)) scr_n ∧
  vp_in (v4 + (4 : Int32)) scr_n ∧
  MO_pushes mo_width mo_height mo_floor mo_thrown aFA (aSCR (v4 + (1 : Int32)).toNatClampNeg) (aSCR (v4 + (2 : Int32)).toNatClampNeg) (aSCR (v4 + (3 : Int32)).toNatClampNeg) (aSCR (v4 + (4 : Int32)).toNatClampNeg) (fun r_144 mo_thrown_145 aFA_146 =>
  MO_thrown mo_thrown_145 (fun r_147 =>
  if r_147 = r_141 then
  (if r_141 = 0 then
  (vp_in (0 : Int32) 1 ∧
  if (aOUT_143 (0 : Int32).toNatClampNeg) = r_144.toInt64 then
  (LW_law_23 scr_n aSCR post n (bc - 2) (bs - 12) pb_textLength aTX pi_width pi_height pi_walls pi_goals pi_boxes pi_person pi_x pi_endedRows bo_width bo_height bo_floor bo_goals bo_live bo_boxes bo_person bo_liveBesideInRow bo_liveBesideInColumn aBS_142 lo_kept lo_moves lo_pushed lo_end aMA aMC aGL aBL aGB aBB aSK aSN se_count se_length se_found se_overfull sb_n aSB sl_n aSL sp_n aSP su_n aSU ss_n aSS mo_thrown_145 mo_size mo_isBoard mo_width mo_height mo_person mo_moves mo_pushes mo_floor mo_goals mo_boxes mo_newFloor mo_newGoals mo_newBoxes mo_newPerson mo_newWidth mo_kept mo_many mo_taken mo_length aTM aDO aXB aXC aXF aXY aXS aXP aFA_146 aLE aOUT_143 (v4 + (5 : Int32)))
  else
  (post (0 : Int32) pb_textLength aTX pi_width pi_height pi_walls pi_goals pi_boxes pi_person pi_x pi_endedRows bo_width bo_height bo_floor bo_goals bo_live bo_boxes bo_person bo_liveBesideInRow bo_liveBesideInColumn aBS_142 lo_kept lo_moves lo_pushed lo_end aMA aMC aGL aBL aGB aBB aSK aSN se_count se_length se_found se_overfull sb_n aSB sl_n aSL sp_n aSP su_n aSU ss_n aSS mo_thrown_145 mo_size mo_isBoard mo_width mo_height mo_person mo_moves mo_pushes mo_floor mo_goals mo_boxes mo_newFloor mo_newGoals mo_newBoxes mo_newPerson mo_newWidth mo_kept mo_many mo_taken mo_length aTM aDO aXB aXC aXF aXY aXS aXP aFA_146 aLE aOUT_143))
  else
  (LW_law_23 scr_n aSCR post n (bc - 2) (bs - 12) pb_textLength aTX pi_width pi_height pi_walls pi_goals pi_boxes pi_person pi_x pi_endedRows bo_width bo_height bo_floor bo_goals bo_live bo_boxes bo_person bo_liveBesideInRow bo_liveBesideInColumn aBS_142 lo_kept lo_moves lo_pushed lo_end aMA aMC aGL aBL aGB aBB aSK aSN se_count se_length se_found se_overfull sb_n aSB sl_n aSL sp_n aSP su_n aSU ss_n aSS mo_thrown_145 mo_size mo_isBoard mo_width mo_height mo_person mo_moves mo_pushes mo_floor mo_goals mo_boxes mo_newFloor mo_newGoals mo_newBoxes mo_newPerson mo_newWidth mo_kept mo_many mo_taken mo_length aTM aDO aXB aXC aXF aXY aXS aXP aFA_146 aLE aOUT_143 (v4 + (5 : Int32))))
  else
  (post (0 : Int32) pb_textLength aTX pi_width pi_height pi_walls pi_goals pi_boxes pi_person pi_x pi_endedRows bo_width bo_height bo_floor bo_goals bo_live bo_boxes bo_person bo_liveBesideInRow bo_liveBesideInColumn aBS_142 lo_kept lo_moves lo_pushed lo_end aMA aMC aGL aBL aGB aBB aSK aSN se_count se_length se_found se_overfull sb_n aSB sl_n aSL sp_n aSP su_n aSU ss_n aSS mo_thrown_145 mo_size mo_isBoard mo_width mo_height mo_person mo_moves mo_pushes mo_floor mo_goals mo_boxes mo_newFloor mo_newGoals mo_newBoxes mo_newPerson mo_newWidth mo_kept mo_many mo_taken mo_length aTM aDO aXB aXC aXF aXY aXS aXP aFA_146 aLE aOUT_143)))))
  else
  (if ((aSCR v4.toNatClampNeg) &&& (31 : Int32)) = (15 : Int32) then
  (vp_in (v4 + (1 : Int32)) scr_n ∧
  ∃ bc_163 bs_164 : Nat, bc_163 ≤ bc ∧ bs_164 ≤ bs ∧
  PB_search bo_width bo_floor bo_goals bo_live bo_boxes bo_person bo_liveBesideInRow bo_liveBesideInColumn se_count se_length se_found se_overfull sb_n aSB sl_n aSL sp_n aSP su_n aSU ss_n aSS (aSCR (v4 + (1 : Int32)).toNatClampNeg) bc_163 bs_164 (fun r_148 se_count_149 se_length_150 se_found_151 se_overfull_152 sb_n_153 aSB_154 sl_n_155 aSL_156 sp_n_157 aSP_158 su_n_159 aSU_160 ss_n_161 aSS_162 =>
  vp_in (v4 + (1 : Int32)) scr_n ∧
  MO_search mo_isBoard mo_width mo_height mo_person mo_floor mo_goals mo_boxes mo_thrown mo_many mo_taken mo_length aXB aXC aXF aXY aXS aXP (aSCR (v4 + (1 : Int32)).toNatClampNeg) (fun r_165 mo_thrown_166 mo_many_167 mo_taken_168 mo_length_169 aXB_170 aXC_171 aXF_172 aXY_173 aXS_174 aXP_175 =>
  if r_148 = r_165 then
  (LW_law_23 scr_n aSCR post n (bc - bc_163) (bs - bs_164) pb_textLength aTX pi_width pi_height pi_walls pi_goals pi_boxes pi_person pi_x pi_endedRows bo_width bo_height bo_floor bo_goals bo_live bo_boxes bo_person bo_liveBesideInRow bo_liveBesideInColumn aBS lo_kept lo_moves lo_pushed lo_end aMA aMC aGL aBL aGB aBB aSK aSN se_count_149 se_length_150 se_found_151 se_overfull_152 sb_n_153 aSB_154 sl_n_155 aSL_156 sp_n_157 aSP_158 su_n_159 aSU_160 ss_n_161 aSS_162 mo_thrown_166 mo_size mo_isBoard mo_width mo_height mo_person mo_moves mo_pushes mo_floor mo_goals mo_boxes mo_newFloor mo_newGoals mo_newBoxes mo_newPerson mo_newWidth mo_kept mo_many_167 mo_taken_168 mo_length_169 aTM aDO aXB_170 aXC_171 aXF_172 aXY_173 aXS_174 aXP_175 aFA aLE aOUT (v4 + (5 : Int32)))
  else
  (post (0 : Int32) pb_textLength aTX pi_width pi_height pi_walls pi_goals pi_boxes pi_person pi_x pi_endedRows bo_width bo_height bo_floor bo_goals bo_live bo_boxes bo_person bo_liveBesideInRow bo_liveBesideInColumn aBS lo_kept lo_moves lo_pushed lo_end aMA aMC aGL aBL aGB aBB aSK aSN se_count_149 se_length_150 se_found_151 se_overfull_152 sb_n_153 aSB_154 sl_n_155 aSL_156 sp_n_157 aSP_158 su_n_159 aSU_160 ss_n_161 aSS_162 mo_thrown_166 mo_size mo_isBoard mo_width mo_height mo_person mo_moves mo_pushes mo_floor mo_goals mo_boxes mo_newFloor mo_newGoals mo_newBoxes mo_newPerson mo_newWidth mo_kept mo_many_167 mo_taken_168 mo_length_169 aTM aDO aXB_170 aXC_171 aXF_172 aXY_173 aXS_174 aXP_175 aFA aLE aOUT))))
  else
  (if ((aSCR v4.toNatClampNeg) &&& (31 : Int32)) = (16 : Int32) then
  (vp_in (v4 + (1 : Int32)) scr_n ∧
  PB_push se_length se_found sp_n aSP su_n aSU (aSCR (v4 + (1 : Int32)).toNatClampNeg) (fun r_176 =>
  vp_in (v4 + (1 : Int32)) scr_n ∧
  MO_push mo_length aXP mo_thrown (aSCR (v4 + (1 : Int32)).toNatClampNeg) (fun r_177 mo_thrown_178 =>
  if r_176 = r_177 then
  (LW_law_23 scr_n aSCR post n bc bs pb_textLength aTX pi_width pi_height pi_walls pi_goals pi_boxes pi_person pi_x pi_endedRows bo_width bo_height bo_floor bo_goals bo_live bo_boxes bo_person bo_liveBesideInRow bo_liveBesideInColumn aBS lo_kept lo_moves lo_pushed lo_end aMA aMC aGL aBL aGB aBB aSK aSN se_count se_length se_found se_overfull sb_n aSB sl_n aSL sp_n aSP su_n aSU ss_n aSS mo_thrown_178 mo_size mo_isBoard mo_width mo_height mo_person mo_moves mo_pushes mo_floor mo_goals mo_boxes mo_newFloor mo_newGoals mo_newBoxes mo_newPerson mo_newWidth mo_kept mo_many mo_taken mo_length aTM aDO aXB aXC aXF aXY aXS aXP aFA aLE aOUT (v4 + (5 : Int32)))
  else
  (post (0 : Int32) pb_textLength aTX pi_width pi_height pi_walls pi_goals pi_boxes pi_person pi_x pi_endedRows bo_width bo_height bo_floor bo_goals bo_live bo_boxes bo_person bo_liveBesideInRow bo_liveBesideInColumn aBS lo_kept lo_moves lo_pushed lo_end aMA aMC aGL aBL aGB aBB aSK aSN se_count se_length se_found se_overfull sb_n aSB sl_n aSL sp_n aSP su_n aSU ss_n aSS mo_thrown_178 mo_size mo_isBoard mo_width mo_height mo_person mo_moves mo_pushes mo_floor mo_goals mo_boxes mo_newFloor mo_newGoals mo_newBoxes mo_newPerson mo_newWidth mo_kept mo_many mo_taken mo_length aTM aDO aXB aXC aXF aXY aXS aXP aFA aLE aOUT))))
  else
  (if ((aSCR v4.toNatClampNeg) &&& (31 : Int32)) = (17 : Int32) then
  (PB_states se_count (fun r_179 =>
  MO_states mo_taken mo_thrown (fun r_180 mo_thrown_181 =>
  if r_179 = r_180 then
  (LW_law_23 scr_n aSCR post n bc bs pb_textLength aTX pi_width pi_height pi_walls pi_goals pi_boxes pi_person pi_x pi_endedRows bo_width bo_height bo_floor bo_goals bo_live bo_boxes bo_person bo_liveBesideInRow bo_liveBesideInColumn aBS lo_kept lo_moves lo_pushed lo_end aMA aMC aGL aBL aGB aBB aSK aSN se_count se_length se_found se_overfull sb_n aSB sl_n aSL sp_n aSP su_n aSU ss_n aSS mo_thrown_181 mo_size mo_isBoard mo_width mo_height mo_person mo_moves mo_pushes mo_floor mo_goals mo_boxes mo_newFloor mo_newGoals mo_newBoxes mo_newPerson mo_newWidth mo_kept mo_many mo_taken mo_length aTM aDO aXB aXC aXF aXY aXS aXP aFA aLE aOUT (v4 + (5 : Int32)))
  else
  (post (0 : Int32) pb_textLength aTX pi_width pi_height pi_walls pi_goals pi_boxes pi_person pi_x pi_endedRows bo_width bo_height bo_floor bo_goals bo_live bo_boxes bo_person bo_liveBesideInRow bo_liveBesideInColumn aBS lo_kept lo_moves lo_pushed lo_end aMA aMC aGL aBL aGB aBB aSK aSN se_count se_length se_found se_overfull sb_n aSB sl_n aSL sp_n aSP su_n aSU ss_n aSS mo_thrown_181 mo_size mo_isBoard mo_width mo_height mo_person mo_moves mo_pushes mo_floor mo_goals mo_boxes mo_newFloor mo_newGoals mo_newBoxes mo_newPerson mo_newWidth mo_kept mo_many mo_taken mo_length aTM aDO aXB aXC aXF aXY aXS aXP aFA aLE aOUT))))
  else
  (LW_law_23 scr_n aSCR post n bc bs pb_textLength aTX pi_width pi_height pi_walls pi_goals pi_boxes pi_person pi_x pi_endedRows bo_width bo_height bo_floor bo_goals bo_live bo_boxes bo_person bo_liveBesideInRow bo_liveBesideInColumn aBS lo_kept lo_moves lo_pushed lo_end aMA aMC aGL aBL aGB aBB aSK aSN se_count se_length se_found se_overfull sb_n aSB sl_n aSL sp_n aSP su_n aSU ss_n aSS mo_thrown mo_size mo_isBoard mo_width mo_height mo_person mo_moves mo_pushes mo_floor mo_goals mo_boxes mo_newFloor mo_newGoals mo_newBoxes mo_newPerson mo_newWidth mo_kept mo_many mo_taken mo_length aTM aDO aXB aXC aXF aXY aXS aXP aFA aLE aOUT (v4 + (5 : Int32)))))))))))))))))))))
