abbrev rm_PI_clear : Room := { frames := 0, cells := 0, slots := 0, locals := 0 }
set_option maxHeartbeats 4000000 in
set_option maxRecDepth 100000 in
theorem c_PI_clear (l : Launch) (G : gEnv) (hPI : Nat) (pi_width : Int32) (pi_height : Int32) (pi_walls : Int64) (pi_goals : Int64) (pi_boxes : Int64) (pi_person : Int64) (pi_x : Int32) (pi_endedRows : Int32) (post : Int32 → Int32 → Int64 → Int64 → Int64 → Int64 → Int32 → Int32 → Prop) (h : PI_clear pi_width pi_height pi_walls pi_goals pi_boxes pi_person pi_x pi_endedRows post) (sz : Nat) : Met l yX3_clear (Cond.code yX3_clear cX3_clear 1 none :: wAll) (rm_PI_clear) (gPc G [.ref hPI] [cPI hPI pi_width pi_height pi_walls pi_goals pi_boxes pi_person pi_x pi_endedRows] sz) (gQv G (fun (u : Int32 × Int32 × Int64 × Int64 × Int64 × Int64 × Int32 × Int32) => post u.1 u.2.1 u.2.2.1 u.2.2.2.1 u.2.2.2.2.1 u.2.2.2.2.2.1 u.2.2.2.2.2.2.1 u.2.2.2.2.2.2.2) (fun (u : Int32 × Int32 × Int64 × Int64 × Int64 × Int64 × Int32 × Int32) => [cPI hPI u.1 u.2.1 u.2.2.1 u.2.2.2.1 u.2.2.2.2.1 u.2.2.2.2.2.1 u.2.2.2.2.2.2.1 u.2.2.2.2.2.2.2]) (va_A [cPI hPI pi_width pi_height pi_walls pi_goals pi_boxes pi_person pi_x pi_endedRows] sz)) 0 0 (va_A [cPI hPI pi_width pi_height pi_walls pi_goals pi_boxes pi_person pi_x pi_endedRows] sz) := by
  refine Met.ofW (cc := cX3_clear) (maxL := 1) (ret := none) (by decide) rfl ?_
  intro p e s m args below meth c s₁ B hml hv
  obtain ⟨rfl, hsz, hP, hK, hD0⟩ := hv
  subst hsz
  have X := gX.ofB (ws := [cPI hPI pi_width pi_height pi_walls pi_goals pi_boxes pi_person pi_x pi_endedRows]) B hml hK hD0
  have hD := hD0.self (sz := s.heap.size)
  generalize hAe : va_A [cPI hPI pi_width pi_height pi_walls pi_goals pi_boxes pi_person pi_x pi_endedRows] s.heap.size = A at X hD ⊢
  have hS : va_S A s.heap s.heap [] := va_S.rf
  have hl := lv_entry ([.ref hPI]) (n := 1) (Nat.le_of_ble_eq_true rfl)
  rw [lg_entry_eq]
  generalize (lg_sl ([.ref hPI]) ++ List.replicate (1 - (lg_sl ([.ref hPI])).length) Slot.unset).toArray = ls at hl ⊢
  have hl : lv_has ls 1 [(0, .ref hPI)] := hl
  dsimp only [headSpec]
  unfold PI_clear at h
  refine lv_aload_n X.1 X.2.1 dX3_clear_0 rfl (lv_at hl 0 rfl) ?_
  refine lv_iconst (v := (0 : Int32)) X.1 X.2.1 dX3_clear_1 (by decide) ?_
  refine g_put X hP hD hS 0 3 0 (v := .int (0 : Int32)) rfl rfl inX3 tyX3 tyX3_ok nmX3 (by decide) fl_X3_9 rfl rfl rfl rfl (Nat.le_of_ble_eq_true rfl) dX3_clear_2 (fun H locs hP hD hS => ?_)
  replace hP : va_P G.1 gCl [cPI hPI (0 : Int32) pi_height pi_walls pi_goals pi_boxes pi_person pi_x pi_endedRows] H := hP
  replace hD : va_D A [cPI hPI (0 : Int32) pi_height pi_walls pi_goals pi_boxes pi_person pi_x pi_endedRows] := hD
  refine lv_aload_n X.1 X.2.1 dX3_clear_5 rfl (lv_at hl 0 rfl) ?_
  refine lv_iconst (v := (0 : Int32)) X.1 X.2.1 dX3_clear_6 (by decide) ?_
  refine g_put X hP hD hS 0 3 1 (v := .int (0 : Int32)) rfl rfl inX3 tyX3 tyX3_ok nmX3 (by decide) fl_X3_15 rfl rfl rfl rfl (Nat.le_of_ble_eq_true rfl) dX3_clear_7 (fun H locs hP hD hS => ?_)
  replace hP : va_P G.1 gCl [cPI hPI (0 : Int32) (0 : Int32) pi_walls pi_goals pi_boxes pi_person pi_x pi_endedRows] H := hP
  replace hD : va_D A [cPI hPI (0 : Int32) (0 : Int32) pi_walls pi_goals pi_boxes pi_person pi_x pi_endedRows] := hD
  refine lv_aload_n X.1 X.2.1 dX3_clear_10 rfl (lv_at hl 0 rfl) ?_
  refine lv_lconst (v := (0 : Int64)) X.1 X.2.1 dX3_clear_11 (by decide) ?_
  refine g_put X hP hD hS 0 3 2 (v := .long (0 : Int64)) rfl rfl inX3 tyX3 tyX3_ok nmX3 (by decide) fl_X3_18 rfl rfl rfl rfl (Nat.le_of_ble_eq_true rfl) dX3_clear_12 (fun H locs hP hD hS => ?_)
  replace hP : va_P G.1 gCl [cPI hPI (0 : Int32) (0 : Int32) (0 : Int64) pi_goals pi_boxes pi_person pi_x pi_endedRows] H := hP
  replace hD : va_D A [cPI hPI (0 : Int32) (0 : Int32) (0 : Int64) pi_goals pi_boxes pi_person pi_x pi_endedRows] := hD
  refine lv_aload_n X.1 X.2.1 dX3_clear_15 rfl (lv_at hl 0 rfl) ?_
  refine lv_lconst (v := (0 : Int64)) X.1 X.2.1 dX3_clear_16 (by decide) ?_
  refine g_put X hP hD hS 0 3 3 (v := .long (0 : Int64)) rfl rfl inX3 tyX3 tyX3_ok nmX3 (by decide) fl_X3_22 rfl rfl rfl rfl (Nat.le_of_ble_eq_true rfl) dX3_clear_17 (fun H locs hP hD hS => ?_)
  replace hP : va_P G.1 gCl [cPI hPI (0 : Int32) (0 : Int32) (0 : Int64) (0 : Int64) pi_boxes pi_person pi_x pi_endedRows] H := hP
  replace hD : va_D A [cPI hPI (0 : Int32) (0 : Int32) (0 : Int64) (0 : Int64) pi_boxes pi_person pi_x pi_endedRows] := hD
  refine lv_aload_n X.1 X.2.1 dX3_clear_20 rfl (lv_at hl 0 rfl) ?_
  refine lv_lconst (v := (0 : Int64)) X.1 X.2.1 dX3_clear_21 (by decide) ?_
  refine g_put X hP hD hS 0 3 4 (v := .long (0 : Int64)) rfl rfl inX3 tyX3 tyX3_ok nmX3 (by decide) fl_X3_25 rfl rfl rfl rfl (Nat.le_of_ble_eq_true rfl) dX3_clear_22 (fun H locs hP hD hS => ?_)
  replace hP : va_P G.1 gCl [cPI hPI (0 : Int32) (0 : Int32) (0 : Int64) (0 : Int64) (0 : Int64) pi_person pi_x pi_endedRows] H := hP
  replace hD : va_D A [cPI hPI (0 : Int32) (0 : Int32) (0 : Int64) (0 : Int64) (0 : Int64) pi_person pi_x pi_endedRows] := hD
  refine lv_aload_n X.1 X.2.1 dX3_clear_25 rfl (lv_at hl 0 rfl) ?_
  refine lv_lconst (v := (0 : Int64)) X.1 X.2.1 dX3_clear_26 (by decide) ?_
  refine g_put X hP hD hS 0 3 5 (v := .long (0 : Int64)) rfl rfl inX3 tyX3 tyX3_ok nmX3 (by decide) fl_X3_28 rfl rfl rfl rfl (Nat.le_of_ble_eq_true rfl) dX3_clear_27 (fun H locs hP hD hS => ?_)
  replace hP : va_P G.1 gCl [cPI hPI (0 : Int32) (0 : Int32) (0 : Int64) (0 : Int64) (0 : Int64) (0 : Int64) pi_x pi_endedRows] H := hP
  replace hD : va_D A [cPI hPI (0 : Int32) (0 : Int32) (0 : Int64) (0 : Int64) (0 : Int64) (0 : Int64) pi_x pi_endedRows] := hD
  refine lv_aload_n X.1 X.2.1 dX3_clear_30 rfl (lv_at hl 0 rfl) ?_
  refine lv_iconst (v := (0 : Int32)) X.1 X.2.1 dX3_clear_31 (by decide) ?_
  refine g_put X hP hD hS 0 3 6 (v := .int (0 : Int32)) rfl rfl inX3 tyX3 tyX3_ok nmX3 (by decide) fl_X3_31 rfl rfl rfl rfl (Nat.le_of_ble_eq_true rfl) dX3_clear_32 (fun H locs hP hD hS => ?_)
  replace hP : va_P G.1 gCl [cPI hPI (0 : Int32) (0 : Int32) (0 : Int64) (0 : Int64) (0 : Int64) (0 : Int64) (0 : Int32) pi_endedRows] H := hP
  replace hD : va_D A [cPI hPI (0 : Int32) (0 : Int32) (0 : Int64) (0 : Int64) (0 : Int64) (0 : Int64) (0 : Int32) pi_endedRows] := hD
  refine lv_aload_n X.1 X.2.1 dX3_clear_35 rfl (lv_at hl 0 rfl) ?_
  refine lv_iconst (v := (0 : Int32)) X.1 X.2.1 dX3_clear_36 (by decide) ?_
  refine g_put X hP hD hS 0 3 7 (v := .int (0 : Int32)) rfl rfl inX3 tyX3 tyX3_ok nmX3 (by decide) fl_X3_34 rfl rfl rfl rfl (Nat.le_of_ble_eq_true rfl) dX3_clear_37 (fun H locs hP hD hS => ?_)
  replace hP : va_P G.1 gCl [cPI hPI (0 : Int32) (0 : Int32) (0 : Int64) (0 : Int64) (0 : Int64) (0 : Int64) (0 : Int32) (0 : Int32)] H := hP
  replace hD : va_D A [cPI hPI (0 : Int32) (0 : Int32) (0 : Int64) (0 : Int64) (0 : Int64) (0 : Int64) (0 : Int32) (0 : Int32)] := hD
  exact g_vret X ((0 : Int32), (0 : Int32), (0 : Int64), (0 : Int64), (0 : Int64), (0 : Int64), (0 : Int32), (0 : Int32)) h hP hD hS dX3_clear_40
abbrev rm_PI_takesGoal : Room := { frames := 1, cells := 0, slots := 0, locals := 21 }
set_option maxHeartbeats 4000000 in
set_option maxRecDepth 100000 in
theorem c_PI_takesGoal (l : Launch) (G : gEnv) (hPI : Nat) (pi_width : Int32) (pi_height : Int32) (pi_walls : Int64) (pi_goals : Int64) (pi_boxes : Int64) (pi_person : Int64) (pi_x : Int32) (pi_endedRows : Int32) (v1 : Int64) (post : Int32 → Int64 → Prop) (h : PI_takesGoal pi_goals v1 post) (sz : Nat) : Met l yX3_takesGoal (Cond.code yX3_takesGoal cX3_takesGoal 3 (some .boolean) :: wAll) (rm_PI_takesGoal) (gPc G [.ref hPI, .long v1] [cPI hPI pi_width pi_height pi_walls pi_goals pi_boxes pi_person pi_x pi_endedRows] sz) (gQi G (fun (r : Int32) (u : Int64) => post r u) (fun (u : Int64) => [cPI hPI pi_width pi_height pi_walls u pi_boxes pi_person pi_x pi_endedRows]) (va_A [cPI hPI pi_width pi_height pi_walls pi_goals pi_boxes pi_person pi_x pi_endedRows] sz)) 0 0 (va_A [cPI hPI pi_width pi_height pi_walls pi_goals pi_boxes pi_person pi_x pi_endedRows] sz) := by
  refine Met.ofW (cc := cX3_takesGoal) (maxL := 3) (ret := (some .boolean)) (by decide) rfl ?_
  intro p e s m args below meth c s₁ B hml hv
  obtain ⟨rfl, hsz, hP, hK, hD0⟩ := hv
  subst hsz
  have X := gX.ofB (ws := [cPI hPI pi_width pi_height pi_walls pi_goals pi_boxes pi_person pi_x pi_endedRows]) B hml hK hD0
  have hD := hD0.self (sz := s.heap.size)
  generalize hAe : va_A [cPI hPI pi_width pi_height pi_walls pi_goals pi_boxes pi_person pi_x pi_endedRows] s.heap.size = A at X hD ⊢
  have hS : va_S A s.heap s.heap [] := va_S.rf
  have hl := lv_entry ([.ref hPI, .long v1]) (n := 3) (Nat.le_of_ble_eq_true rfl)
  rw [lg_entry_eq]
  generalize (lg_sl ([.ref hPI, .long v1]) ++ List.replicate (3 - (lg_sl ([.ref hPI, .long v1])).length) Slot.unset).toArray = ls at hl ⊢
  have hl : lv_has ls 3 [(0, .ref hPI), (1, .long v1)] := hl
  dsimp only [headSpec]
  unfold PI_takesGoal at h
  refine lv_aload_n X.1 X.2.1 dX3_takesGoal_0 rfl (lv_at hl 0 rfl) ?_
  refine lv_dup X.1 X.2.1 dX3_takesGoal_1 rfl ?_
  refine g_get X hP 0 3 3 (v := .long pi_goals) rfl rfl inX3 (by decide) fl_X3_22 rfl dX3_takesGoal_2 ?_
  refine lv_lload_n X.1 X.2.1 dX3_takesGoal_5 rfl (lv_at hl 1 rfl) ?_
  refine lv_lor X.1 X.2.1 dX3_takesGoal_6 ?_
  refine lv_topl (fun pi_goals_1 e_pi_goals_1 => ?_)
  replace h := h pi_goals_1 e_pi_goals_1
  refine g_put X hP hD hS 0 3 3 (v := .long pi_goals_1) rfl rfl inX3 tyX3 tyX3_ok nmX3 (by decide) fl_X3_22 rfl rfl rfl rfl (Nat.le_of_ble_eq_true rfl) dX3_takesGoal_7 (fun H locs hP hD hS => ?_)
  replace hP : va_P G.1 gCl [cPI hPI pi_width pi_height pi_walls pi_goals_1 pi_boxes pi_person pi_x pi_endedRows] H := hP
  replace hD : va_D A [cPI hPI pi_width pi_height pi_walls pi_goals_1 pi_boxes pi_person pi_x pi_endedRows] := hD
  refine lv_aload_n X.1 X.2.1 dX3_takesGoal_10 rfl (lv_at hl 0 rfl) ?_
  refine g_get X hP 0 3 3 (v := .long pi_goals_1) rfl rfl inX3 (by decide) fl_X3_22 rfl dX3_takesGoal_11 ?_
  refine g_ci (wr := [cPI hPI pi_width pi_height pi_walls pi_goals_1 pi_boxes pi_person pi_x pi_endedRows]) X [] [0] (g_rS (As := [.long pi_goals_1]) (rest := []) X (c_JL_bitCount l G pi_goals_1 _ h _) lk_X3_51 rfl rfl ⟨Nat.le_of_ble_eq_true rfl, Nat.le_of_ble_eq_true rfl⟩ hP hD hS [] rfl rfl rfl hl.1 rfl (Nat.le_of_ble_eq_true rfl) dX3_takesGoal_14 ⟨Nat.le_of_ble_eq_true rfl, Nat.le_of_ble_eq_true rfl⟩) hP hD hS rfl rfl rfl (by decide) (fun r_2 u H locs h hP hD hS => ?_)
  try dsimp only at h
  replace hP := hP.sub (ws' := [cPI hPI pi_width pi_height pi_walls pi_goals_1 pi_boxes pi_person pi_x pi_endedRows]) [0] rfl
  replace hD := hD.sub (ws' := [cPI hPI pi_width pi_height pi_walls pi_goals_1 pi_boxes pi_person pi_x pi_endedRows]) [0] rfl rfl
  refine lv_bipush (v := (12 : Int32)) X.1 X.2.1 dX3_takesGoal_17 (by decide) ?_
  refine lv_icmp_gt (tgt := 26) X.1 X.2.1 dX3_takesGoal_19 (by decide) (fun hc => ?_) (fun hc => ?_)
  · replace h := Eq.mp (if_pos hc) h
    refine lv_iconst (v := (0 : Int32)) X.1 X.2.1 dX3_takesGoal_26 (by decide) ?_
    exact g_zret X (by decide) pi_goals_1 h hP hD hS dX3_takesGoal_27
  · replace h := Eq.mp (if_neg hc) h
    refine lv_iconst (v := (1 : Int32)) X.1 X.2.1 dX3_takesGoal_22 (by decide) ?_
    refine lv_goto (tgt := 27) X.1 X.2.1 dX3_takesGoal_23 (by decide) ?_
    exact g_zret X (by decide) pi_goals_1 h hP hD hS dX3_takesGoal_27
abbrev rm_PI_takesBox : Room := { frames := 1, cells := 0, slots := 0, locals := 21 }
set_option maxHeartbeats 4000000 in
set_option maxRecDepth 100000 in
theorem c_PI_takesBox (l : Launch) (G : gEnv) (hPI : Nat) (pi_width : Int32) (pi_height : Int32) (pi_walls : Int64) (pi_goals : Int64) (pi_boxes : Int64) (pi_person : Int64) (pi_x : Int32) (pi_endedRows : Int32) (v1 : Int64) (post : Int32 → Int64 → Prop) (h : PI_takesBox pi_boxes v1 post) (sz : Nat) : Met l yX3_takesBox (Cond.code yX3_takesBox cX3_takesBox 3 (some .boolean) :: wAll) (rm_PI_takesBox) (gPc G [.ref hPI, .long v1] [cPI hPI pi_width pi_height pi_walls pi_goals pi_boxes pi_person pi_x pi_endedRows] sz) (gQi G (fun (r : Int32) (u : Int64) => post r u) (fun (u : Int64) => [cPI hPI pi_width pi_height pi_walls pi_goals u pi_person pi_x pi_endedRows]) (va_A [cPI hPI pi_width pi_height pi_walls pi_goals pi_boxes pi_person pi_x pi_endedRows] sz)) 0 0 (va_A [cPI hPI pi_width pi_height pi_walls pi_goals pi_boxes pi_person pi_x pi_endedRows] sz) := by
  refine Met.ofW (cc := cX3_takesBox) (maxL := 3) (ret := (some .boolean)) (by decide) rfl ?_
  intro p e s m args below meth c s₁ B hml hv
  obtain ⟨rfl, hsz, hP, hK, hD0⟩ := hv
  subst hsz
  have X := gX.ofB (ws := [cPI hPI pi_width pi_height pi_walls pi_goals pi_boxes pi_person pi_x pi_endedRows]) B hml hK hD0
  have hD := hD0.self (sz := s.heap.size)
  generalize hAe : va_A [cPI hPI pi_width pi_height pi_walls pi_goals pi_boxes pi_person pi_x pi_endedRows] s.heap.size = A at X hD ⊢
  have hS : va_S A s.heap s.heap [] := va_S.rf
  have hl := lv_entry ([.ref hPI, .long v1]) (n := 3) (Nat.le_of_ble_eq_true rfl)
  rw [lg_entry_eq]
  generalize (lg_sl ([.ref hPI, .long v1]) ++ List.replicate (3 - (lg_sl ([.ref hPI, .long v1])).length) Slot.unset).toArray = ls at hl ⊢
  have hl : lv_has ls 3 [(0, .ref hPI), (1, .long v1)] := hl
  dsimp only [headSpec]
  unfold PI_takesBox at h
  refine lv_aload_n X.1 X.2.1 dX3_takesBox_0 rfl (lv_at hl 0 rfl) ?_
  refine lv_dup X.1 X.2.1 dX3_takesBox_1 rfl ?_
  refine g_get X hP 0 3 4 (v := .long pi_boxes) rfl rfl inX3 (by decide) fl_X3_25 rfl dX3_takesBox_2 ?_
  refine lv_lload_n X.1 X.2.1 dX3_takesBox_5 rfl (lv_at hl 1 rfl) ?_
  refine lv_lor X.1 X.2.1 dX3_takesBox_6 ?_
  refine lv_topl (fun pi_boxes_1 e_pi_boxes_1 => ?_)
  replace h := h pi_boxes_1 e_pi_boxes_1
  refine g_put X hP hD hS 0 3 4 (v := .long pi_boxes_1) rfl rfl inX3 tyX3 tyX3_ok nmX3 (by decide) fl_X3_25 rfl rfl rfl rfl (Nat.le_of_ble_eq_true rfl) dX3_takesBox_7 (fun H locs hP hD hS => ?_)
  replace hP : va_P G.1 gCl [cPI hPI pi_width pi_height pi_walls pi_goals pi_boxes_1 pi_person pi_x pi_endedRows] H := hP
  replace hD : va_D A [cPI hPI pi_width pi_height pi_walls pi_goals pi_boxes_1 pi_person pi_x pi_endedRows] := hD
  refine lv_aload_n X.1 X.2.1 dX3_takesBox_10 rfl (lv_at hl 0 rfl) ?_
  refine g_get X hP 0 3 4 (v := .long pi_boxes_1) rfl rfl inX3 (by decide) fl_X3_25 rfl dX3_takesBox_11 ?_
  refine g_ci (wr := [cPI hPI pi_width pi_height pi_walls pi_goals pi_boxes_1 pi_person pi_x pi_endedRows]) X [] [0] (g_rS (As := [.long pi_boxes_1]) (rest := []) X (c_JL_bitCount l G pi_boxes_1 _ h _) lk_X3_51 rfl rfl ⟨Nat.le_of_ble_eq_true rfl, Nat.le_of_ble_eq_true rfl⟩ hP hD hS [] rfl rfl rfl hl.1 rfl (Nat.le_of_ble_eq_true rfl) dX3_takesBox_14 ⟨Nat.le_of_ble_eq_true rfl, Nat.le_of_ble_eq_true rfl⟩) hP hD hS rfl rfl rfl (by decide) (fun r_2 u H locs h hP hD hS => ?_)
  try dsimp only at h
  replace hP := hP.sub (ws' := [cPI hPI pi_width pi_height pi_walls pi_goals pi_boxes_1 pi_person pi_x pi_endedRows]) [0] rfl
  replace hD := hD.sub (ws' := [cPI hPI pi_width pi_height pi_walls pi_goals pi_boxes_1 pi_person pi_x pi_endedRows]) [0] rfl rfl
  refine lv_bipush (v := (12 : Int32)) X.1 X.2.1 dX3_takesBox_17 (by decide) ?_
  refine lv_icmp_gt (tgt := 26) X.1 X.2.1 dX3_takesBox_19 (by decide) (fun hc => ?_) (fun hc => ?_)
  · replace h := Eq.mp (if_pos hc) h
    refine lv_iconst (v := (0 : Int32)) X.1 X.2.1 dX3_takesBox_26 (by decide) ?_
    exact g_zret X (by decide) pi_boxes_1 h hP hD hS dX3_takesBox_27
  · replace h := Eq.mp (if_neg hc) h
    refine lv_iconst (v := (1 : Int32)) X.1 X.2.1 dX3_takesBox_22 (by decide) ?_
    refine lv_goto (tgt := 27) X.1 X.2.1 dX3_takesBox_23 (by decide) ?_
    exact g_zret X (by decide) pi_boxes_1 h hP hD hS dX3_takesBox_27
abbrev rm_PI_takesPerson : Room := { frames := 0, cells := 0, slots := 0, locals := 0 }
set_option maxHeartbeats 4000000 in
set_option maxRecDepth 100000 in
theorem s_PI_takesPerson_14 {p : Program} {l : Launch} {e : Env} {s : State} {m : MethodId} {args : Array Value} {below : List Frame} {meth : Method} {c : Code} {G : gEnv} {A : Nat → Prop} {hPI : Nat} {pi_width : Int32} {pi_height : Int32} {pi_walls : Int64} {pi_goals : Int64} {pi_boxes : Int64} {pi_x : Int32} {pi_endedRows : Int32} {post : Int32 → Int64 → Prop} (X : gX p m meth c cX3_takesPerson 4 RX3 (some .boolean) s args G A)  : ∀ (pi_person : Int64) (v1 : Int64) (t0 : Int32) (H : Heap) (locs : List Loc) (ls : Array Slot), PI_takesPerson_14 post pi_person v1 t0 → va_P G.1 gCl [cPI hPI pi_width pi_height pi_walls pi_goals pi_boxes pi_person pi_x pi_endedRows] H → va_D A [cPI hPI pi_width pi_height pi_walls pi_goals pi_boxes pi_person pi_x pi_endedRows] → va_S A s.heap H locs → lv_has ls 4 [(0, .ref hPI), (1, .long v1)] → W p l e rm_PI_takesPerson s m args below meth c H locs 0 0 (MQ below (gQi G (fun (r : Int32) (u : Int64) => post r u) (fun (u : Int64) => [cPI hPI pi_width pi_height pi_walls pi_goals pi_boxes u pi_x pi_endedRows]) A) args s 0 0 A) (F0 m 14 ls [.int t0]) := by
  intro pi_person v1 t0 H locs ls h hP hD hS hl
  unfold PI_takesPerson_14 at h
  refine lv_istore_n (lv' := [(3, .int t0), (0, .ref hPI), (1, .long v1)]) X.1 X.2.1 dX3_takesPerson_14 rfl hl (by decide) rfl (fun ls hl => ?_)
  refine lv_aload_n X.1 X.2.1 dX3_takesPerson_15 rfl (lv_at hl 1 rfl) ?_
  refine lv_dup X.1 X.2.1 dX3_takesPerson_16 rfl ?_
  refine g_get X hP 0 3 5 (v := .long pi_person) rfl rfl inX3 (by decide) fl_X3_28 rfl dX3_takesPerson_17 ?_
  refine lv_lload_n X.1 X.2.1 dX3_takesPerson_20 rfl (lv_at hl 2 rfl) ?_
  refine lv_lor X.1 X.2.1 dX3_takesPerson_21 ?_
  refine lv_topl (fun pi_person_1 e_pi_person_1 => ?_)
  replace h := h pi_person_1 e_pi_person_1
  refine g_put X hP hD hS 0 3 5 (v := .long pi_person_1) rfl rfl inX3 tyX3 tyX3_ok nmX3 (by decide) fl_X3_28 rfl rfl rfl rfl (Nat.le_of_ble_eq_true rfl) dX3_takesPerson_22 (fun H locs hP hD hS => ?_)
  replace hP : va_P G.1 gCl [cPI hPI pi_width pi_height pi_walls pi_goals pi_boxes pi_person_1 pi_x pi_endedRows] H := hP
  replace hD : va_D A [cPI hPI pi_width pi_height pi_walls pi_goals pi_boxes pi_person_1 pi_x pi_endedRows] := hD
  refine lv_iload_n X.1 X.2.1 dX3_takesPerson_25 rfl (lv_at hl 0 rfl) ?_
  obtain ⟨hv, h⟩ := h
  exact g_zret X hv pi_person_1 h hP hD hS dX3_takesPerson_26
set_option maxHeartbeats 4000000 in
set_option maxRecDepth 100000 in
theorem c_PI_takesPerson (l : Launch) (G : gEnv) (hPI : Nat) (pi_width : Int32) (pi_height : Int32) (pi_walls : Int64) (pi_goals : Int64) (pi_boxes : Int64) (pi_person : Int64) (pi_x : Int32) (pi_endedRows : Int32) (v1 : Int64) (post : Int32 → Int64 → Prop) (h : PI_takesPerson pi_person v1 post) (sz : Nat) : Met l yX3_takesPerson (Cond.code yX3_takesPerson cX3_takesPerson 4 (some .boolean) :: wAll) (rm_PI_takesPerson) (gPc G [.ref hPI, .long v1] [cPI hPI pi_width pi_height pi_walls pi_goals pi_boxes pi_person pi_x pi_endedRows] sz) (gQi G (fun (r : Int32) (u : Int64) => post r u) (fun (u : Int64) => [cPI hPI pi_width pi_height pi_walls pi_goals pi_boxes u pi_x pi_endedRows]) (va_A [cPI hPI pi_width pi_height pi_walls pi_goals pi_boxes pi_person pi_x pi_endedRows] sz)) 0 0 (va_A [cPI hPI pi_width pi_height pi_walls pi_goals pi_boxes pi_person pi_x pi_endedRows] sz) := by
  refine Met.ofW (cc := cX3_takesPerson) (maxL := 4) (ret := (some .boolean)) (by decide) rfl ?_
  intro p e s m args below meth c s₁ B hml hv
  obtain ⟨rfl, hsz, hP, hK, hD0⟩ := hv
  subst hsz
  have X := gX.ofB (ws := [cPI hPI pi_width pi_height pi_walls pi_goals pi_boxes pi_person pi_x pi_endedRows]) B hml hK hD0
  have hD := hD0.self (sz := s.heap.size)
  generalize hAe : va_A [cPI hPI pi_width pi_height pi_walls pi_goals pi_boxes pi_person pi_x pi_endedRows] s.heap.size = A at X hD ⊢
  have hS : va_S A s.heap s.heap [] := va_S.rf
  have hl := lv_entry ([.ref hPI, .long v1]) (n := 4) (Nat.le_of_ble_eq_true rfl)
  rw [lg_entry_eq]
  generalize (lg_sl ([.ref hPI, .long v1]) ++ List.replicate (4 - (lg_sl ([.ref hPI, .long v1])).length) Slot.unset).toArray = ls at hl ⊢
  have hl : lv_has ls 4 [(0, .ref hPI), (1, .long v1)] := hl
  dsimp only [headSpec]
  unfold PI_takesPerson at h
  refine lv_aload_n X.1 X.2.1 dX3_takesPerson_0 rfl (lv_at hl 0 rfl) ?_
  refine g_get X hP 0 3 5 (v := .long pi_person) rfl rfl inX3 (by decide) fl_X3_28 rfl dX3_takesPerson_1 ?_
  refine lv_lconst (v := (0 : Int64)) X.1 X.2.1 dX3_takesPerson_4 (by decide) ?_
  refine g_lcmp_ne (tgt := 13) X dX3_takesPerson_5 dX3_takesPerson_6 (by decide) (fun hc => ?_) (fun hc => ?_)
  · replace h := Eq.mp (if_neg hc) h
    refine lv_iconst (v := (0 : Int32)) X.1 X.2.1 dX3_takesPerson_13 (by decide) ?_
    exact s_PI_takesPerson_14 X  pi_person v1 (0 : Int32) _ _ _ h hP hD hS (lv_sub hl [0, 1] rfl)
  · replace h := Eq.mp (if_pos hc) h
    refine lv_iconst (v := (1 : Int32)) X.1 X.2.1 dX3_takesPerson_9 (by decide) ?_
    refine lv_goto (tgt := 14) X.1 X.2.1 dX3_takesPerson_10 (by decide) ?_
    exact s_PI_takesPerson_14 X  pi_person v1 (1 : Int32) _ _ _ h hP hD hS (lv_sub hl [0, 1] rfl)
abbrev rm_PI_takesSign : Room := { frames := 2, cells := 0, slots := 0, locals := 43 }
set_option maxHeartbeats 4000000 in
set_option maxRecDepth 100000 in
theorem c_PI_takesSign (l : Launch) (G : gEnv) (hPI : Nat) (pi_width : Int32) (pi_height : Int32) (pi_walls : Int64) (pi_goals : Int64) (pi_boxes : Int64) (pi_person : Int64) (pi_x : Int32) (pi_endedRows : Int32) (v1 : Int32) (v2 : Int64) (post : Int32 → Int64 → Int64 → Int64 → Int64 → Prop) (h : PI_takesSign pi_walls pi_goals pi_boxes pi_person v1 v2 post) (sz : Nat) : Met l yX3_takesSign (Cond.code yX3_takesSign cX3_takesSign 4 (some .boolean) :: wAll) (rm_PI_takesSign) (gPc G [.ref hPI, .int v1, .long v2] [cPI hPI pi_width pi_height pi_walls pi_goals pi_boxes pi_person pi_x pi_endedRows] sz) (gQi G (fun (r : Int32) (u : Int64 × Int64 × Int64 × Int64) => post r u.1 u.2.1 u.2.2.1 u.2.2.2) (fun (u : Int64 × Int64 × Int64 × Int64) => [cPI hPI pi_width pi_height u.1 u.2.1 u.2.2.1 u.2.2.2 pi_x pi_endedRows]) (va_A [cPI hPI pi_width pi_height pi_walls pi_goals pi_boxes pi_person pi_x pi_endedRows] sz)) 0 0 (va_A [cPI hPI pi_width pi_height pi_walls pi_goals pi_boxes pi_person pi_x pi_endedRows] sz) := by
  refine Met.ofW (cc := cX3_takesSign) (maxL := 4) (ret := (some .boolean)) (by decide) rfl ?_
  intro p e s m args below meth c s₁ B hml hv
  obtain ⟨rfl, hsz, hP, hK, hD0⟩ := hv
  subst hsz
  have X := gX.ofB (ws := [cPI hPI pi_width pi_height pi_walls pi_goals pi_boxes pi_person pi_x pi_endedRows]) B hml hK hD0
  have hD := hD0.self (sz := s.heap.size)
  generalize hAe : va_A [cPI hPI pi_width pi_height pi_walls pi_goals pi_boxes pi_person pi_x pi_endedRows] s.heap.size = A at X hD ⊢
  have hS : va_S A s.heap s.heap [] := va_S.rf
  have hl := lv_entry ([.ref hPI, .int v1, .long v2]) (n := 4) (Nat.le_of_ble_eq_true rfl)
  rw [lg_entry_eq]
  generalize (lg_sl ([.ref hPI, .int v1, .long v2]) ++ List.replicate (4 - (lg_sl ([.ref hPI, .int v1, .long v2])).length) Slot.unset).toArray = ls at hl ⊢
  have hl : lv_has ls 4 [(0, .ref hPI), (1, .int v1), (2, .long v2)] := hl
  dsimp only [headSpec]
  unfold PI_takesSign at h
  refine lv_iload_n X.1 X.2.1 dX3_takesSign_0 rfl (lv_at hl 1 rfl) ?_
  by_cases hc0 : v1 = (32 : Int32)
  · replace h := Eq.mp (if_pos hc0) h
    refine lv_lookup (tgt := 88) X.1 X.2.1 dX3_takesSign_1 (by decide) (by rw [hc0] <;> rfl) (by decide) ?_
    refine lv_iconst (v := (1 : Int32)) X.1 X.2.1 dX3_takesSign_88 (by decide) ?_
    exact g_zret X (by decide) (pi_walls, pi_goals, pi_boxes, pi_person) h hP hD hS dX3_takesSign_89
  replace h := Eq.mp (if_neg hc0) h
  by_cases hc1 : v1 = (35 : Int32)
  · replace h := Eq.mp (if_pos hc1) h
    refine lv_lookup (tgt := 76) X.1 X.2.1 dX3_takesSign_1 (by decide) (by rw [hc1] <;> rfl) (by decide) ?_
    refine lv_aload_n X.1 X.2.1 dX3_takesSign_76 rfl (lv_at hl 0 rfl) ?_
    refine lv_dup X.1 X.2.1 dX3_takesSign_77 rfl ?_
    refine g_get X hP 0 3 2 (v := .long pi_walls) rfl rfl inX3 (by decide) fl_X3_18 rfl dX3_takesSign_78 ?_
    refine lv_lload_n X.1 X.2.1 dX3_takesSign_81 rfl (lv_at hl 2 rfl) ?_
    refine lv_lor X.1 X.2.1 dX3_takesSign_82 ?_
    refine lv_topl (fun pi_walls_1 e_pi_walls_1 => ?_)
    replace h := h pi_walls_1 e_pi_walls_1
    refine g_put X hP hD hS 0 3 2 (v := .long pi_walls_1) rfl rfl inX3 tyX3 tyX3_ok nmX3 (by decide) fl_X3_18 rfl rfl rfl rfl (Nat.le_of_ble_eq_true rfl) dX3_takesSign_83 (fun H locs hP hD hS => ?_)
    replace hP : va_P G.1 gCl [cPI hPI pi_width pi_height pi_walls_1 pi_goals pi_boxes pi_person pi_x pi_endedRows] H := hP
    replace hD : va_D A [cPI hPI pi_width pi_height pi_walls_1 pi_goals pi_boxes pi_person pi_x pi_endedRows] := hD
    refine lv_iconst (v := (1 : Int32)) X.1 X.2.1 dX3_takesSign_86 (by decide) ?_
    exact g_zret X (by decide) (pi_walls_1, pi_goals, pi_boxes, pi_person) h hP hD hS dX3_takesSign_87
  replace h := Eq.mp (if_neg hc1) h
  by_cases hc2 : v1 = (36 : Int32)
  · replace h := Eq.mp (if_pos hc2) h
    refine lv_lookup (tgt := 96) X.1 X.2.1 dX3_takesSign_1 (by decide) (by rw [hc2] <;> rfl) (by decide) ?_
    refine lv_aload_n X.1 X.2.1 dX3_takesSign_96 rfl (lv_at hl 0 rfl) ?_
    refine lv_lload_n X.1 X.2.1 dX3_takesSign_97 rfl (lv_at hl 2 rfl) ?_
    refine g_ci (wr := []) X [0] [] (g_rV (As := [.long v2]) (rest := []) X (c_PI_takesBox l G hPI pi_width pi_height pi_walls pi_goals pi_boxes pi_person pi_x pi_endedRows v2 _ h _) lk_X3_61 rfl rfl ⟨Nat.le_of_ble_eq_true rfl, Nat.le_of_ble_eq_true rfl⟩ hP hD hS [0] rfl rfl 0 3 rfl rfl rfl hl.1 rfl (Nat.le_of_ble_eq_true rfl) dX3_takesSign_98 ⟨Nat.le_of_ble_eq_true rfl, Nat.le_of_ble_eq_true rfl⟩) hP hD hS rfl rfl rfl (by decide) (fun r_2 u H locs h hP hD hS => ?_)
    obtain ⟨pi_boxes_3, rfl⟩ : ∃ z, z = u := ⟨_, rfl⟩
    try dsimp only at h
    replace hP := hP.sub (ws' := [cPI hPI pi_width pi_height pi_walls pi_goals pi_boxes_3 pi_person pi_x pi_endedRows]) [0] rfl
    replace hD := hD.sub (ws' := [cPI hPI pi_width pi_height pi_walls pi_goals pi_boxes_3 pi_person pi_x pi_endedRows]) [0] rfl rfl
    obtain ⟨hv, h⟩ := h
    exact g_zret X hv (pi_walls, pi_goals, pi_boxes_3, pi_person) h hP hD hS dX3_takesSign_101
  replace h := Eq.mp (if_neg hc2) h
  by_cases hc3 : v1 = (42 : Int32)
  · replace h := Eq.mp (if_pos hc3) h
    refine lv_lookup (tgt := 102) X.1 X.2.1 dX3_takesSign_1 (by decide) (by rw [hc3] <;> rfl) (by decide) ?_
    refine lv_aload_n X.1 X.2.1 dX3_takesSign_102 rfl (lv_at hl 0 rfl) ?_
    refine lv_lload_n X.1 X.2.1 dX3_takesSign_103 rfl (lv_at hl 2 rfl) ?_
    refine g_ci (wr := []) X [0] [] (g_rV (As := [.long v2]) (rest := []) X (c_PI_takesGoal l G hPI pi_width pi_height pi_walls pi_goals pi_boxes pi_person pi_x pi_endedRows v2 _ h _) lk_X3_57 rfl rfl ⟨Nat.le_of_ble_eq_true rfl, Nat.le_of_ble_eq_true rfl⟩ hP hD hS [0] rfl rfl 0 3 rfl rfl rfl hl.1 rfl (Nat.le_of_ble_eq_true rfl) dX3_takesSign_104 ⟨Nat.le_of_ble_eq_true rfl, Nat.le_of_ble_eq_true rfl⟩) hP hD hS rfl rfl rfl (by decide) (fun r_4 u H locs h hP hD hS => ?_)
    obtain ⟨pi_goals_5, rfl⟩ : ∃ z, z = u := ⟨_, rfl⟩
    try dsimp only at h
    replace hP := hP.sub (ws' := [cPI hPI pi_width pi_height pi_walls pi_goals_5 pi_boxes pi_person pi_x pi_endedRows]) [0] rfl
    replace hD := hD.sub (ws' := [cPI hPI pi_width pi_height pi_walls pi_goals_5 pi_boxes pi_person pi_x pi_endedRows]) [0] rfl rfl
    refine lv_if_eq (tgt := 122) X.1 X.2.1 dX3_takesSign_107 (by decide) (fun hc => ?_) (fun hc => ?_)
    · replace h := Eq.mp (if_pos hc) h
      refine lv_iconst (v := (0 : Int32)) X.1 X.2.1 dX3_takesSign_122 (by decide) ?_
      exact g_zret X (by decide) (pi_walls, pi_goals_5, pi_boxes, pi_person) h hP hD hS dX3_takesSign_123
    · replace h := Eq.mp (if_neg hc) h
      refine lv_aload_n X.1 X.2.1 dX3_takesSign_110 rfl (lv_at hl 0 rfl) ?_
      refine lv_lload_n X.1 X.2.1 dX3_takesSign_111 rfl (lv_at hl 2 rfl) ?_
      refine g_ci (wr := []) X [0] [] (g_rV (As := [.long v2]) (rest := []) X (c_PI_takesBox l G hPI pi_width pi_height pi_walls pi_goals_5 pi_boxes pi_person pi_x pi_endedRows v2 _ h _) lk_X3_61 rfl rfl ⟨Nat.le_of_ble_eq_true rfl, Nat.le_of_ble_eq_true rfl⟩ hP hD hS [0] rfl rfl 0 3 rfl rfl rfl hl.1 rfl (Nat.le_of_ble_eq_true rfl) dX3_takesSign_112 ⟨Nat.le_of_ble_eq_true rfl, Nat.le_of_ble_eq_true rfl⟩) hP hD hS rfl rfl rfl (by decide) (fun r_6 u H locs h hP hD hS => ?_)
      obtain ⟨pi_boxes_7, rfl⟩ : ∃ z, z = u := ⟨_, rfl⟩
      try dsimp only at h
      replace hP := hP.sub (ws' := [cPI hPI pi_width pi_height pi_walls pi_goals_5 pi_boxes_7 pi_person pi_x pi_endedRows]) [0] rfl
      replace hD := hD.sub (ws' := [cPI hPI pi_width pi_height pi_walls pi_goals_5 pi_boxes_7 pi_person pi_x pi_endedRows]) [0] rfl rfl
      refine lv_if_eq (tgt := 122) X.1 X.2.1 dX3_takesSign_115 (by decide) (fun hc => ?_) (fun hc => ?_)
      · replace h := Eq.mp (if_pos hc) h
        refine lv_iconst (v := (0 : Int32)) X.1 X.2.1 dX3_takesSign_122 (by decide) ?_
        exact g_zret X (by decide) (pi_walls, pi_goals_5, pi_boxes_7, pi_person) h hP hD hS dX3_takesSign_123
      · replace h := Eq.mp (if_neg hc) h
        refine lv_iconst (v := (1 : Int32)) X.1 X.2.1 dX3_takesSign_118 (by decide) ?_
        refine lv_goto (tgt := 123) X.1 X.2.1 dX3_takesSign_119 (by decide) ?_
        exact g_zret X (by decide) (pi_walls, pi_goals_5, pi_boxes_7, pi_person) h hP hD hS dX3_takesSign_123
  replace h := Eq.mp (if_neg hc3) h
  by_cases hc4 : v1 = (43 : Int32)
  · replace h := Eq.mp (if_pos hc4) h
    refine lv_lookup (tgt := 130) X.1 X.2.1 dX3_takesSign_1 (by decide) (by rw [hc4] <;> rfl) (by decide) ?_
    refine lv_aload_n X.1 X.2.1 dX3_takesSign_130 rfl (lv_at hl 0 rfl) ?_
    refine lv_lload_n X.1 X.2.1 dX3_takesSign_131 rfl (lv_at hl 2 rfl) ?_
    refine g_ci (wr := []) X [0] [] (g_rV (As := [.long v2]) (rest := []) X (c_PI_takesGoal l G hPI pi_width pi_height pi_walls pi_goals pi_boxes pi_person pi_x pi_endedRows v2 _ h _) lk_X3_57 rfl rfl ⟨Nat.le_of_ble_eq_true rfl, Nat.le_of_ble_eq_true rfl⟩ hP hD hS [0] rfl rfl 0 3 rfl rfl rfl hl.1 rfl (Nat.le_of_ble_eq_true rfl) dX3_takesSign_132 ⟨Nat.le_of_ble_eq_true rfl, Nat.le_of_ble_eq_true rfl⟩) hP hD hS rfl rfl rfl (by decide) (fun r_8 u H locs h hP hD hS => ?_)
    obtain ⟨pi_goals_9, rfl⟩ : ∃ z, z = u := ⟨_, rfl⟩
    try dsimp only at h
    replace hP := hP.sub (ws' := [cPI hPI pi_width pi_height pi_walls pi_goals_9 pi_boxes pi_person pi_x pi_endedRows]) [0] rfl
    replace hD := hD.sub (ws' := [cPI hPI pi_width pi_height pi_walls pi_goals_9 pi_boxes pi_person pi_x pi_endedRows]) [0] rfl rfl
    refine lv_if_eq (tgt := 150) X.1 X.2.1 dX3_takesSign_135 (by decide) (fun hc => ?_) (fun hc => ?_)
    · replace h := Eq.mp (if_pos hc) h
      refine lv_iconst (v := (0 : Int32)) X.1 X.2.1 dX3_takesSign_150 (by decide) ?_
      exact g_zret X (by decide) (pi_walls, pi_goals_9, pi_boxes, pi_person) h hP hD hS dX3_takesSign_151
    · replace h := Eq.mp (if_neg hc) h
      refine lv_aload_n X.1 X.2.1 dX3_takesSign_138 rfl (lv_at hl 0 rfl) ?_
      refine lv_lload_n X.1 X.2.1 dX3_takesSign_139 rfl (lv_at hl 2 rfl) ?_
      refine g_ci (wr := []) X [0] [] (g_rV (As := [.long v2]) (rest := []) X (c_PI_takesPerson l G hPI pi_width pi_height pi_walls pi_goals_9 pi_boxes pi_person pi_x pi_endedRows v2 _ h _) lk_X3_64 rfl rfl ⟨Nat.le_of_ble_eq_true rfl, Nat.le_of_ble_eq_true rfl⟩ hP hD hS [0] rfl rfl 0 3 rfl rfl rfl hl.1 rfl (Nat.le_of_ble_eq_true rfl) dX3_takesSign_140 ⟨Nat.le_of_ble_eq_true rfl, Nat.le_of_ble_eq_true rfl⟩) hP hD hS rfl rfl rfl (by decide) (fun r_10 u H locs h hP hD hS => ?_)
      obtain ⟨pi_person_11, rfl⟩ : ∃ z, z = u := ⟨_, rfl⟩
      try dsimp only at h
      replace hP := hP.sub (ws' := [cPI hPI pi_width pi_height pi_walls pi_goals_9 pi_boxes pi_person_11 pi_x pi_endedRows]) [0] rfl
      replace hD := hD.sub (ws' := [cPI hPI pi_width pi_height pi_walls pi_goals_9 pi_boxes pi_person_11 pi_x pi_endedRows]) [0] rfl rfl
      refine lv_if_eq (tgt := 150) X.1 X.2.1 dX3_takesSign_143 (by decide) (fun hc => ?_) (fun hc => ?_)
      · replace h := Eq.mp (if_pos hc) h
        refine lv_iconst (v := (0 : Int32)) X.1 X.2.1 dX3_takesSign_150 (by decide) ?_
        exact g_zret X (by decide) (pi_walls, pi_goals_9, pi_boxes, pi_person_11) h hP hD hS dX3_takesSign_151
      · replace h := Eq.mp (if_neg hc) h
        refine lv_iconst (v := (1 : Int32)) X.1 X.2.1 dX3_takesSign_146 (by decide) ?_
        refine lv_goto (tgt := 151) X.1 X.2.1 dX3_takesSign_147 (by decide) ?_
        exact g_zret X (by decide) (pi_walls, pi_goals_9, pi_boxes, pi_person_11) h hP hD hS dX3_takesSign_151
  replace h := Eq.mp (if_neg hc4) h
  by_cases hc5 : v1 = (46 : Int32)
  · replace h := Eq.mp (if_pos hc5) h
    refine lv_lookup (tgt := 90) X.1 X.2.1 dX3_takesSign_1 (by decide) (by rw [hc5] <;> rfl) (by decide) ?_
    refine lv_aload_n X.1 X.2.1 dX3_takesSign_90 rfl (lv_at hl 0 rfl) ?_
    refine lv_lload_n X.1 X.2.1 dX3_takesSign_91 rfl (lv_at hl 2 rfl) ?_
    refine g_ci (wr := []) X [0] [] (g_rV (As := [.long v2]) (rest := []) X (c_PI_takesGoal l G hPI pi_width pi_height pi_walls pi_goals pi_boxes pi_person pi_x pi_endedRows v2 _ h _) lk_X3_57 rfl rfl ⟨Nat.le_of_ble_eq_true rfl, Nat.le_of_ble_eq_true rfl⟩ hP hD hS [0] rfl rfl 0 3 rfl rfl rfl hl.1 rfl (Nat.le_of_ble_eq_true rfl) dX3_takesSign_92 ⟨Nat.le_of_ble_eq_true rfl, Nat.le_of_ble_eq_true rfl⟩) hP hD hS rfl rfl rfl (by decide) (fun r_12 u H locs h hP hD hS => ?_)
    obtain ⟨pi_goals_13, rfl⟩ : ∃ z, z = u := ⟨_, rfl⟩
    try dsimp only at h
    replace hP := hP.sub (ws' := [cPI hPI pi_width pi_height pi_walls pi_goals_13 pi_boxes pi_person pi_x pi_endedRows]) [0] rfl
    replace hD := hD.sub (ws' := [cPI hPI pi_width pi_height pi_walls pi_goals_13 pi_boxes pi_person pi_x pi_endedRows]) [0] rfl rfl
    obtain ⟨hv, h⟩ := h
    exact g_zret X hv (pi_walls, pi_goals_13, pi_boxes, pi_person) h hP hD hS dX3_takesSign_95
  replace h := Eq.mp (if_neg hc5) h
  by_cases hc6 : v1 = (64 : Int32)
  · replace h := Eq.mp (if_pos hc6) h
    refine lv_lookup (tgt := 124) X.1 X.2.1 dX3_takesSign_1 (by decide) (by rw [hc6] <;> rfl) (by decide) ?_
    refine lv_aload_n X.1 X.2.1 dX3_takesSign_124 rfl (lv_at hl 0 rfl) ?_
    refine lv_lload_n X.1 X.2.1 dX3_takesSign_125 rfl (lv_at hl 2 rfl) ?_
    refine g_ci (wr := []) X [0] [] (g_rV (As := [.long v2]) (rest := []) X (c_PI_takesPerson l G hPI pi_width pi_height pi_walls pi_goals pi_boxes pi_person pi_x pi_endedRows v2 _ h _) lk_X3_64 rfl rfl ⟨Nat.le_of_ble_eq_true rfl, Nat.le_of_ble_eq_true rfl⟩ hP hD hS [0] rfl rfl 0 3 rfl rfl rfl hl.1 rfl (Nat.le_of_ble_eq_true rfl) dX3_takesSign_126 ⟨Nat.le_of_ble_eq_true rfl, Nat.le_of_ble_eq_true rfl⟩) hP hD hS rfl rfl rfl (by decide) (fun r_14 u H locs h hP hD hS => ?_)
    obtain ⟨pi_person_15, rfl⟩ : ∃ z, z = u := ⟨_, rfl⟩
    try dsimp only at h
    replace hP := hP.sub (ws' := [cPI hPI pi_width pi_height pi_walls pi_goals pi_boxes pi_person_15 pi_x pi_endedRows]) [0] rfl
    replace hD := hD.sub (ws' := [cPI hPI pi_width pi_height pi_walls pi_goals pi_boxes pi_person_15 pi_x pi_endedRows]) [0] rfl rfl
    obtain ⟨hv, h⟩ := h
    exact g_zret X hv (pi_walls, pi_goals, pi_boxes, pi_person_15) h hP hD hS dX3_takesSign_129
  replace h := Eq.mp (if_neg hc6) h
  by_cases hc7 : v1 = (95 : Int32)
  · replace h := Eq.mp (if_pos hc7) h
    refine lv_lookup (tgt := 88) X.1 X.2.1 dX3_takesSign_1 (by decide) (by rw [hc7] <;> rfl) (by decide) ?_
    refine lv_iconst (v := (1 : Int32)) X.1 X.2.1 dX3_takesSign_88 (by decide) ?_
    exact g_zret X (by decide) (pi_walls, pi_goals, pi_boxes, pi_person) h hP hD hS dX3_takesSign_89
  replace h := Eq.mp (if_neg hc7) h
  refine lv_lookup (off := 151) (tgt := 152) X.1 X.2.1 dX3_takesSign_1 (by decide) ((lv_osw hc0 (by decide)).trans ((lv_osw hc1 (by decide)).trans ((lv_osw hc2 (by decide)).trans ((lv_osw hc3 (by decide)).trans ((lv_osw hc4 (by decide)).trans ((lv_osw hc5 (by decide)).trans ((lv_osw hc6 (by decide)).trans ((lv_osw hc7 (by decide)).trans rfl)))))))) (by decide) ?_
  refine lv_iconst (v := (0 : Int32)) X.1 X.2.1 dX3_takesSign_152 (by decide) ?_
  exact g_zret X (by decide) (pi_walls, pi_goals, pi_boxes, pi_person) h hP hD hS dX3_takesSign_153
abbrev rm_PI_takes : Room := { frames := 3, cells := 0, slots := 0, locals := 66 }
set_option maxHeartbeats 4000000 in
set_option maxRecDepth 100000 in
theorem s_PI_takes_33 {p : Program} {l : Launch} {e : Env} {s : State} {m : MethodId} {args : Array Value} {below : List Frame} {meth : Method} {c : Code} {G : gEnv} {A : Nat → Prop} {hPI : Nat} {post : Int32 → Int32 → Int32 → Int64 → Int64 → Int64 → Int64 → Int32 → Int32 → Prop} (X : gX p m meth c cX3_takes 2 RX3 (some .boolean) s args G A)  : ∀ (pi_width : Int32) (pi_height : Int32) (pi_walls : Int64) (pi_goals : Int64) (pi_boxes : Int64) (pi_person : Int64) (pi_x : Int32) (pi_endedRows : Int32) (H : Heap) (locs : List Loc) (ls : Array Slot), PI_takes_33 post pi_width pi_height pi_walls pi_goals pi_boxes pi_person pi_x pi_endedRows → va_P G.1 gCl [cPI hPI pi_width pi_height pi_walls pi_goals pi_boxes pi_person pi_x pi_endedRows] H → va_D A [cPI hPI pi_width pi_height pi_walls pi_goals pi_boxes pi_person pi_x pi_endedRows] → va_S A s.heap H locs → lv_has ls 2 [(0, .ref hPI)] → W p l e rm_PI_takes s m args below meth c H locs 0 0 (MQ below (gQi G (fun (r : Int32) (u : Int32 × Int32 × Int64 × Int64 × Int64 × Int64 × Int32 × Int32) => post r u.1 u.2.1 u.2.2.1 u.2.2.2.1 u.2.2.2.2.1 u.2.2.2.2.2.1 u.2.2.2.2.2.2.1 u.2.2.2.2.2.2.2) (fun (u : Int32 × Int32 × Int64 × Int64 × Int64 × Int64 × Int32 × Int32) => [cPI hPI u.1 u.2.1 u.2.2.1 u.2.2.2.1 u.2.2.2.2.1 u.2.2.2.2.2.1 u.2.2.2.2.2.2.1 u.2.2.2.2.2.2.2]) A) args s 0 0 A) (F0 m 33 ls []) := by
  intro pi_width pi_height pi_walls pi_goals pi_boxes pi_person pi_x pi_endedRows H locs ls h hP hD hS hl
  unfold PI_takes_33 at h
  refine lv_aload_n X.1 X.2.1 dX3_takes_33 rfl (lv_at hl 0 rfl) ?_
  refine lv_dup X.1 X.2.1 dX3_takes_34 rfl ?_
  refine g_get X hP 0 3 7 (v := .int pi_endedRows) rfl rfl inX3 (by decide) fl_X3_34 rfl dX3_takes_35 ?_
  refine lv_iconst (v := (1 : Int32)) X.1 X.2.1 dX3_takes_38 (by decide) ?_
  refine lv_iadd X.1 X.2.1 dX3_takes_39 ?_
  refine lv_topi (fun pi_endedRows_1 e_pi_endedRows_1 => ?_)
  replace h := h pi_endedRows_1 e_pi_endedRows_1
  refine g_put X hP hD hS 0 3 7 (v := .int pi_endedRows_1) rfl rfl inX3 tyX3 tyX3_ok nmX3 (by decide) fl_X3_34 rfl rfl rfl rfl (Nat.le_of_ble_eq_true rfl) dX3_takes_40 (fun H locs hP hD hS => ?_)
  replace hP : va_P G.1 gCl [cPI hPI pi_width pi_height pi_walls pi_goals pi_boxes pi_person pi_x pi_endedRows_1] H := hP
  replace hD : va_D A [cPI hPI pi_width pi_height pi_walls pi_goals pi_boxes pi_person pi_x pi_endedRows_1] := hD
  refine lv_aload_n X.1 X.2.1 dX3_takes_43 rfl (lv_at hl 0 rfl) ?_
  refine lv_iconst (v := (0 : Int32)) X.1 X.2.1 dX3_takes_44 (by decide) ?_
  refine g_put X hP hD hS 0 3 6 (v := .int (0 : Int32)) rfl rfl inX3 tyX3 tyX3_ok nmX3 (by decide) fl_X3_31 rfl rfl rfl rfl (Nat.le_of_ble_eq_true rfl) dX3_takes_45 (fun H locs hP hD hS => ?_)
  replace hP : va_P G.1 gCl [cPI hPI pi_width pi_height pi_walls pi_goals pi_boxes pi_person (0 : Int32) pi_endedRows_1] H := hP
  replace hD : va_D A [cPI hPI pi_width pi_height pi_walls pi_goals pi_boxes pi_person (0 : Int32) pi_endedRows_1] := hD
  refine lv_iconst (v := (1 : Int32)) X.1 X.2.1 dX3_takes_48 (by decide) ?_
  exact g_zret X (by decide) (pi_width, pi_height, pi_walls, pi_goals, pi_boxes, pi_person, (0 : Int32), pi_endedRows_1) h hP hD hS dX3_takes_49
set_option maxHeartbeats 4000000 in
set_option maxRecDepth 100000 in
theorem c_PI_takes (l : Launch) (G : gEnv) (hPI : Nat) (pi_width : Int32) (pi_height : Int32) (pi_walls : Int64) (pi_goals : Int64) (pi_boxes : Int64) (pi_person : Int64) (pi_x : Int32) (pi_endedRows : Int32) (v1 : Int32) (post : Int32 → Int32 → Int32 → Int64 → Int64 → Int64 → Int64 → Int32 → Int32 → Prop) (h : PI_takes pi_width pi_height pi_walls pi_goals pi_boxes pi_person pi_x pi_endedRows v1 post) (sz : Nat) : Met l yX3_takes (Cond.code yX3_takes cX3_takes 2 (some .boolean) :: wAll) (rm_PI_takes) (gPc G [.ref hPI, .int v1] [cPI hPI pi_width pi_height pi_walls pi_goals pi_boxes pi_person pi_x pi_endedRows] sz) (gQi G (fun (r : Int32) (u : Int32 × Int32 × Int64 × Int64 × Int64 × Int64 × Int32 × Int32) => post r u.1 u.2.1 u.2.2.1 u.2.2.2.1 u.2.2.2.2.1 u.2.2.2.2.2.1 u.2.2.2.2.2.2.1 u.2.2.2.2.2.2.2) (fun (u : Int32 × Int32 × Int64 × Int64 × Int64 × Int64 × Int32 × Int32) => [cPI hPI u.1 u.2.1 u.2.2.1 u.2.2.2.1 u.2.2.2.2.1 u.2.2.2.2.2.1 u.2.2.2.2.2.2.1 u.2.2.2.2.2.2.2]) (va_A [cPI hPI pi_width pi_height pi_walls pi_goals pi_boxes pi_person pi_x pi_endedRows] sz)) 0 0 (va_A [cPI hPI pi_width pi_height pi_walls pi_goals pi_boxes pi_person pi_x pi_endedRows] sz) := by
  refine Met.ofW (cc := cX3_takes) (maxL := 2) (ret := (some .boolean)) (by decide) rfl ?_
  intro p e s m args below meth c s₁ B hml hv
  obtain ⟨rfl, hsz, hP, hK, hD0⟩ := hv
  subst hsz
  have X := gX.ofB (ws := [cPI hPI pi_width pi_height pi_walls pi_goals pi_boxes pi_person pi_x pi_endedRows]) B hml hK hD0
  have hD := hD0.self (sz := s.heap.size)
  generalize hAe : va_A [cPI hPI pi_width pi_height pi_walls pi_goals pi_boxes pi_person pi_x pi_endedRows] s.heap.size = A at X hD ⊢
  have hS : va_S A s.heap s.heap [] := va_S.rf
  have hl := lv_entry ([.ref hPI, .int v1]) (n := 2) (Nat.le_of_ble_eq_true rfl)
  rw [lg_entry_eq]
  generalize (lg_sl ([.ref hPI, .int v1]) ++ List.replicate (2 - (lg_sl ([.ref hPI, .int v1])).length) Slot.unset).toArray = ls at hl ⊢
  have hl : lv_has ls 2 [(0, .ref hPI), (1, .int v1)] := hl
  dsimp only [headSpec]
  unfold PI_takes at h
  refine lv_aload_n X.1 X.2.1 dX3_takes_0 rfl (lv_at hl 0 rfl) ?_
  refine g_get X hP 0 3 7 (v := .int pi_endedRows) rfl rfl inX3 (by decide) fl_X3_34 rfl dX3_takes_1 ?_
  refine lv_bipush (v := (8 : Int32)) X.1 X.2.1 dX3_takes_4 (by decide) ?_
  refine lv_icmp_lt (tgt := 11) X.1 X.2.1 dX3_takes_6 (by decide) (fun hc => ?_) (fun hc => ?_)
  · replace h := Eq.mp (if_pos hc) h
    refine lv_aload_n X.1 X.2.1 dX3_takes_11 rfl (lv_at hl 0 rfl) ?_
    refine lv_aload_n X.1 X.2.1 dX3_takes_12 rfl (lv_at hl 0 rfl) ?_
    refine g_get X hP 0 3 7 (v := .int pi_endedRows) rfl rfl inX3 (by decide) fl_X3_34 rfl dX3_takes_13 ?_
    refine lv_iconst (v := (1 : Int32)) X.1 X.2.1 dX3_takes_16 (by decide) ?_
    refine lv_iadd X.1 X.2.1 dX3_takes_17 ?_
    refine lv_topi (fun pi_height_1 e_pi_height_1 => ?_)
    replace h := h pi_height_1 e_pi_height_1
    refine g_put X hP hD hS 0 3 1 (v := .int pi_height_1) rfl rfl inX3 tyX3 tyX3_ok nmX3 (by decide) fl_X3_15 rfl rfl rfl rfl (Nat.le_of_ble_eq_true rfl) dX3_takes_18 (fun H locs hP hD hS => ?_)
    replace hP : va_P G.1 gCl [cPI hPI pi_width pi_height_1 pi_walls pi_goals pi_boxes pi_person pi_x pi_endedRows] H := hP
    replace hD : va_D A [cPI hPI pi_width pi_height_1 pi_walls pi_goals pi_boxes pi_person pi_x pi_endedRows] := hD
    refine lv_iload_n X.1 X.2.1 dX3_takes_21 rfl (lv_at hl 1 rfl) ?_
    refine lv_bipush (v := (10 : Int32)) X.1 X.2.1 dX3_takes_22 (by decide) ?_
    refine lv_icmp_eq (tgt := 33) X.1 X.2.1 dX3_takes_24 (by decide) (fun hc => ?_) (fun hc => ?_)
    · replace h := Eq.mp (if_pos hc) h
      exact s_PI_takes_33 X  pi_width pi_height_1 pi_walls pi_goals pi_boxes pi_person pi_x pi_endedRows _ _ _ h hP hD hS (lv_sub hl [0] rfl)
    · replace h := Eq.mp (if_neg hc) h
      refine lv_iload_n X.1 X.2.1 dX3_takes_27 rfl (lv_at hl 1 rfl) ?_
      refine lv_bipush (v := (124 : Int32)) X.1 X.2.1 dX3_takes_28 (by decide) ?_
      refine lv_icmp_ne (tgt := 50) X.1 X.2.1 dX3_takes_30 (by decide) (fun hc => ?_) (fun hc => ?_)
      · replace h := Eq.mp (if_neg hc) h
        refine lv_aload_n X.1 X.2.1 dX3_takes_50 rfl (lv_at hl 0 rfl) ?_
        refine g_get X hP 0 3 6 (v := .int pi_x) rfl rfl inX3 (by decide) fl_X3_31 rfl dX3_takes_51 ?_
        refine lv_bipush (v := (8 : Int32)) X.1 X.2.1 dX3_takes_54 (by decide) ?_
        refine lv_icmp_ge (tgt := 78) X.1 X.2.1 dX3_takes_56 (by decide) (fun hc => ?_) (fun hc => ?_)
        · replace h := Eq.mp (if_pos hc) h
          refine lv_iconst (v := (0 : Int32)) X.1 X.2.1 dX3_takes_78 (by decide) ?_
          exact g_zret X (by decide) (pi_width, pi_height_1, pi_walls, pi_goals, pi_boxes, pi_person, pi_x, pi_endedRows) h hP hD hS dX3_takes_79
        · replace h := Eq.mp (if_neg hc) h
          refine lv_aload_n X.1 X.2.1 dX3_takes_59 rfl (lv_at hl 0 rfl) ?_
          refine lv_iload_n X.1 X.2.1 dX3_takes_60 rfl (lv_at hl 1 rfl) ?_
          refine lv_aload_n X.1 X.2.1 dX3_takes_61 rfl (lv_at hl 0 rfl) ?_
          refine g_get X hP 0 3 6 (v := .int pi_x) rfl rfl inX3 (by decide) fl_X3_31 rfl dX3_takes_62 ?_
          refine lv_aload_n X.1 X.2.1 dX3_takes_65 rfl (lv_at hl 0 rfl) ?_
          refine g_get X hP 0 3 7 (v := .int pi_endedRows) rfl rfl inX3 (by decide) fl_X3_34 rfl dX3_takes_66 ?_
          refine g_cl (wr := [cPI hPI pi_width pi_height_1 pi_walls pi_goals pi_boxes pi_person pi_x pi_endedRows]) X [] [0] (g_rN (As := [.int pi_x, .int pi_endedRows]) (rest := [.int v1, .ref hPI]) X (c_PB_cellAt l G pi_x pi_endedRows _ h _) lk_X3_37 rfl rfl ⟨Nat.le_of_ble_eq_true rfl, Nat.le_of_ble_eq_true rfl⟩ hP hD hS [] rfl rfl rfl hl.1 rfl (Nat.le_of_ble_eq_true rfl) dX3_takes_69 ⟨Nat.le_of_ble_eq_true rfl, Nat.le_of_ble_eq_true rfl⟩) hP hD hS rfl rfl rfl (by decide) (fun r_2 u H locs h hP hD hS => ?_)
          try dsimp only at h
          replace hP := hP.sub (ws' := [cPI hPI pi_width pi_height_1 pi_walls pi_goals pi_boxes pi_person pi_x pi_endedRows]) [0] rfl
          replace hD := hD.sub (ws' := [cPI hPI pi_width pi_height_1 pi_walls pi_goals pi_boxes pi_person pi_x pi_endedRows]) [0] rfl rfl
          refine g_ci (wr := []) X [0] [] (g_rV (As := [.int v1, .long r_2]) (rest := []) X (c_PI_takesSign l G hPI pi_width pi_height_1 pi_walls pi_goals pi_boxes pi_person pi_x pi_endedRows v1 r_2 _ h _) lk_X3_41 rfl rfl ⟨Nat.le_of_ble_eq_true rfl, Nat.le_of_ble_eq_true rfl⟩ hP hD hS [0] rfl rfl 0 3 rfl rfl rfl hl.1 rfl (Nat.le_of_ble_eq_true rfl) dX3_takes_72 ⟨Nat.le_of_ble_eq_true rfl, Nat.le_of_ble_eq_true rfl⟩) hP hD hS rfl rfl rfl (by decide) (fun r_3 u H locs h hP hD hS => ?_)
          obtain ⟨pi_walls_4, pi_goals_5, pi_boxes_6, pi_person_7⟩ := u
          try dsimp only at h
          replace hP := hP.sub (ws' := [cPI hPI pi_width pi_height_1 pi_walls_4 pi_goals_5 pi_boxes_6 pi_person_7 pi_x pi_endedRows]) [0] rfl
          replace hD := hD.sub (ws' := [cPI hPI pi_width pi_height_1 pi_walls_4 pi_goals_5 pi_boxes_6 pi_person_7 pi_x pi_endedRows]) [0] rfl rfl
          refine lv_if_ne (tgt := 80) X.1 X.2.1 dX3_takes_75 (by decide) (fun hc => ?_) (fun hc => ?_)
          · replace h := Eq.mp (if_neg hc) h
            refine lv_aload_n X.1 X.2.1 dX3_takes_80 rfl (lv_at hl 0 rfl) ?_
            refine lv_dup X.1 X.2.1 dX3_takes_81 rfl ?_
            refine g_get X hP 0 3 6 (v := .int pi_x) rfl rfl inX3 (by decide) fl_X3_31 rfl dX3_takes_82 ?_
            refine lv_iconst (v := (1 : Int32)) X.1 X.2.1 dX3_takes_85 (by decide) ?_
            refine lv_iadd X.1 X.2.1 dX3_takes_86 ?_
            refine lv_topi (fun pi_x_8 e_pi_x_8 => ?_)
            replace h := h pi_x_8 e_pi_x_8
            refine g_put X hP hD hS 0 3 6 (v := .int pi_x_8) rfl rfl inX3 tyX3 tyX3_ok nmX3 (by decide) fl_X3_31 rfl rfl rfl rfl (Nat.le_of_ble_eq_true rfl) dX3_takes_87 (fun H locs hP hD hS => ?_)
            replace hP : va_P G.1 gCl [cPI hPI pi_width pi_height_1 pi_walls_4 pi_goals_5 pi_boxes_6 pi_person_7 pi_x_8 pi_endedRows] H := hP
            replace hD : va_D A [cPI hPI pi_width pi_height_1 pi_walls_4 pi_goals_5 pi_boxes_6 pi_person_7 pi_x_8 pi_endedRows] := hD
            refine lv_aload_n X.1 X.2.1 dX3_takes_90 rfl (lv_at hl 0 rfl) ?_
            refine lv_aload_n X.1 X.2.1 dX3_takes_91 rfl (lv_at hl 0 rfl) ?_
            refine g_get X hP 0 3 0 (v := .int pi_width) rfl rfl inX3 (by decide) fl_X3_9 rfl dX3_takes_92 ?_
            refine lv_aload_n X.1 X.2.1 dX3_takes_95 rfl (lv_at hl 0 rfl) ?_
            refine g_get X hP 0 3 6 (v := .int pi_x_8) rfl rfl inX3 (by decide) fl_X3_31 rfl dX3_takes_96 ?_
            refine g_mmax X hl.1 mt_X3_45 (Nat.le_of_ble_eq_true rfl) (Nat.le_of_ble_eq_true rfl) (Nat.le_of_ble_eq_true rfl) (Nat.le_of_ble_eq_true rfl) dX3_takes_99 ?_
            refine lv_topi (fun pi_width_9 e_pi_width_9 => ?_)
            replace h := h pi_width_9 e_pi_width_9
            refine g_put X hP hD hS 0 3 0 (v := .int pi_width_9) rfl rfl inX3 tyX3 tyX3_ok nmX3 (by decide) fl_X3_9 rfl rfl rfl rfl (Nat.le_of_ble_eq_true rfl) dX3_takes_102 (fun H locs hP hD hS => ?_)
            replace hP : va_P G.1 gCl [cPI hPI pi_width_9 pi_height_1 pi_walls_4 pi_goals_5 pi_boxes_6 pi_person_7 pi_x_8 pi_endedRows] H := hP
            replace hD : va_D A [cPI hPI pi_width_9 pi_height_1 pi_walls_4 pi_goals_5 pi_boxes_6 pi_person_7 pi_x_8 pi_endedRows] := hD
            refine lv_iconst (v := (1 : Int32)) X.1 X.2.1 dX3_takes_105 (by decide) ?_
            exact g_zret X (by decide) (pi_width_9, pi_height_1, pi_walls_4, pi_goals_5, pi_boxes_6, pi_person_7, pi_x_8, pi_endedRows) h hP hD hS dX3_takes_106
          · replace h := Eq.mp (if_pos hc) h
            refine lv_iconst (v := (0 : Int32)) X.1 X.2.1 dX3_takes_78 (by decide) ?_
            exact g_zret X (by decide) (pi_width, pi_height_1, pi_walls_4, pi_goals_5, pi_boxes_6, pi_person_7, pi_x, pi_endedRows) h hP hD hS dX3_takes_79
      · replace h := Eq.mp (if_pos hc) h
        exact s_PI_takes_33 X  pi_width pi_height_1 pi_walls pi_goals pi_boxes pi_person pi_x pi_endedRows _ _ _ h hP hD hS (lv_sub hl [0] rfl)
  · replace h := Eq.mp (if_neg hc) h
    refine lv_iconst (v := (0 : Int32)) X.1 X.2.1 dX3_takes_9 (by decide) ?_
    exact g_zret X (by decide) (pi_width, pi_height, pi_walls, pi_goals, pi_boxes, pi_person, pi_x, pi_endedRows) h hP hD hS dX3_takes_10
abbrev rm_PI_isBoard : Room := { frames := 1, cells := 0, slots := 0, locals := 21 }
set_option maxHeartbeats 4000000 in
set_option maxRecDepth 100000 in
theorem c_PI_isBoard (l : Launch) (G : gEnv) (hPI : Nat) (pi_width : Int32) (pi_height : Int32) (pi_walls : Int64) (pi_goals : Int64) (pi_boxes : Int64) (pi_person : Int64) (pi_x : Int32) (pi_endedRows : Int32) (post : Int32 → Prop) (h : PI_isBoard pi_goals pi_boxes pi_person post) (sz : Nat) : Met l yX3_isBoard (Cond.code yX3_isBoard cX3_isBoard 1 (some .boolean) :: wAll) (rm_PI_isBoard) (gPc G [.ref hPI] [cPI hPI pi_width pi_height pi_walls pi_goals pi_boxes pi_person pi_x pi_endedRows] sz) (gQi G (fun (r : Int32) (u : Unit) => post r ) (fun (u : Unit) => [cPI hPI pi_width pi_height pi_walls pi_goals pi_boxes pi_person pi_x pi_endedRows]) (va_A [cPI hPI pi_width pi_height pi_walls pi_goals pi_boxes pi_person pi_x pi_endedRows] sz)) 0 0 (va_A [cPI hPI pi_width pi_height pi_walls pi_goals pi_boxes pi_person pi_x pi_endedRows] sz) := by
  refine Met.ofW (cc := cX3_isBoard) (maxL := 1) (ret := (some .boolean)) (by decide) rfl ?_
  intro p e s m args below meth c s₁ B hml hv
  obtain ⟨rfl, hsz, hP, hK, hD0⟩ := hv
  subst hsz
  have X := gX.ofB (ws := [cPI hPI pi_width pi_height pi_walls pi_goals pi_boxes pi_person pi_x pi_endedRows]) B hml hK hD0
  have hD := hD0.self (sz := s.heap.size)
  generalize hAe : va_A [cPI hPI pi_width pi_height pi_walls pi_goals pi_boxes pi_person pi_x pi_endedRows] s.heap.size = A at X hD ⊢
  have hS : va_S A s.heap s.heap [] := va_S.rf
  have hl := lv_entry ([.ref hPI]) (n := 1) (Nat.le_of_ble_eq_true rfl)
  rw [lg_entry_eq]
  generalize (lg_sl ([.ref hPI]) ++ List.replicate (1 - (lg_sl ([.ref hPI])).length) Slot.unset).toArray = ls at hl ⊢
  have hl : lv_has ls 1 [(0, .ref hPI)] := hl
  dsimp only [headSpec]
  unfold PI_isBoard at h
  refine lv_aload_n X.1 X.2.1 dX3_isBoard_0 rfl (lv_at hl 0 rfl) ?_
  refine g_get X hP 0 3 5 (v := .long pi_person) rfl rfl inX3 (by decide) fl_X3_28 rfl dX3_isBoard_1 ?_
  refine lv_lconst (v := (0 : Int64)) X.1 X.2.1 dX3_isBoard_4 (by decide) ?_
  refine g_lcmp_eq (tgt := 30) X dX3_isBoard_5 dX3_isBoard_6 (by decide) (fun hc => ?_) (fun hc => ?_)
  · replace h := Eq.mp (if_pos hc) h
    refine lv_iconst (v := (0 : Int32)) X.1 X.2.1 dX3_isBoard_30 (by decide) ?_
    exact g_zret X (by decide) () h hP hD hS dX3_isBoard_31
  · replace h := Eq.mp (if_neg hc) h
    refine lv_aload_n X.1 X.2.1 dX3_isBoard_9 rfl (lv_at hl 0 rfl) ?_
    refine g_get X hP 0 3 4 (v := .long pi_boxes) rfl rfl inX3 (by decide) fl_X3_25 rfl dX3_isBoard_10 ?_
    refine g_ci (wr := [cPI hPI pi_width pi_height pi_walls pi_goals pi_boxes pi_person pi_x pi_endedRows]) X [] [0] (g_rS (As := [.long pi_boxes]) (rest := []) X (c_JL_bitCount l G pi_boxes _ h _) lk_X3_51 rfl rfl ⟨Nat.le_of_ble_eq_true rfl, Nat.le_of_ble_eq_true rfl⟩ hP hD hS [] rfl rfl rfl hl.1 rfl (Nat.le_of_ble_eq_true rfl) dX3_isBoard_13 ⟨Nat.le_of_ble_eq_true rfl, Nat.le_of_ble_eq_true rfl⟩) hP hD hS rfl rfl rfl (by decide) (fun r_1 u H locs h hP hD hS => ?_)
    try dsimp only at h
    replace hP := hP.sub (ws' := [cPI hPI pi_width pi_height pi_walls pi_goals pi_boxes pi_person pi_x pi_endedRows]) [0] rfl
    replace hD := hD.sub (ws' := [cPI hPI pi_width pi_height pi_walls pi_goals pi_boxes pi_person pi_x pi_endedRows]) [0] rfl rfl
    refine lv_aload_n X.1 X.2.1 dX3_isBoard_16 rfl (lv_at hl 0 rfl) ?_
    refine g_get X hP 0 3 3 (v := .long pi_goals) rfl rfl inX3 (by decide) fl_X3_22 rfl dX3_isBoard_17 ?_
    refine g_ci (wr := [cPI hPI pi_width pi_height pi_walls pi_goals pi_boxes pi_person pi_x pi_endedRows]) X [] [0] (g_rS (As := [.long pi_goals]) (rest := [.int r_1]) X (c_JL_bitCount l G pi_goals _ h _) lk_X3_51 rfl rfl ⟨Nat.le_of_ble_eq_true rfl, Nat.le_of_ble_eq_true rfl⟩ hP hD hS [] rfl rfl rfl hl.1 rfl (Nat.le_of_ble_eq_true rfl) dX3_isBoard_20 ⟨Nat.le_of_ble_eq_true rfl, Nat.le_of_ble_eq_true rfl⟩) hP hD hS rfl rfl rfl (by decide) (fun r_2 u H locs h hP hD hS => ?_)
    try dsimp only at h
    replace hP := hP.sub (ws' := [cPI hPI pi_width pi_height pi_walls pi_goals pi_boxes pi_person pi_x pi_endedRows]) [0] rfl
    replace hD := hD.sub (ws' := [cPI hPI pi_width pi_height pi_walls pi_goals pi_boxes pi_person pi_x pi_endedRows]) [0] rfl rfl
    refine lv_icmp_lt (tgt := 30) X.1 X.2.1 dX3_isBoard_23 (by decide) (fun hc => ?_) (fun hc => ?_)
    · replace h := Eq.mp (if_pos hc) h
      refine lv_iconst (v := (0 : Int32)) X.1 X.2.1 dX3_isBoard_30 (by decide) ?_
      exact g_zret X (by decide) () h hP hD hS dX3_isBoard_31
    · replace h := Eq.mp (if_neg hc) h
      refine lv_iconst (v := (1 : Int32)) X.1 X.2.1 dX3_isBoard_26 (by decide) ?_
      refine lv_goto (tgt := 31) X.1 X.2.1 dX3_isBoard_27 (by decide) ?_
      exact g_zret X (by decide) () h hP hD hS dX3_isBoard_31
