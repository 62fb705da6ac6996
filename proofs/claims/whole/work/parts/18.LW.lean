abbrev rm_LW_move : Room := { frames := 9, cells := 1, slots := 6, locals := 194 }
set_option maxHeartbeats 4000000 in
set_option maxRecDepth 100000 in
theorem c_LW_move (l : Launch) (G : gEnv) (hPB : Nat) (hTX : Nat) (hPI : Nat) (hBO : Nat) (hBS : Nat) (hLO : Nat) (hMA : Nat) (hMT : Nat) (hSE : Nat) (hOUT : Nat) (pb_textLength : Int32) (bo_width : Int32) (bo_height : Int32) (bo_floor : Int64) (bo_goals : Int64) (bo_live : Int64) (bo_boxes : Int64) (bo_person : Int64) (bo_liveBesideInRow : Int64) (bo_liveBesideInColumn : Int64) (lo_kept : Int32) (lo_moves : Int32) (lo_pushed : Int32) (lo_end : Int32) (aMA : Nat → Int32) (aOUT : Nat → Int64) (v1 : Int32) (post : Int32 → Int64 → Int64 → Int32 → Int32 → Int32 → Int32 → (Nat → Int32) → (Nat → Int64) → Prop) (h : LW_move bo_floor bo_boxes bo_person lo_kept lo_moves lo_pushed lo_end aMA aOUT v1 post) (hl0 : l.stackTraces = false) (sz : Nat) : Met l yL_move (Cond.codeWith yL_move cL_move 4 (some .int) [(0, 9, 12, 13), (0, 9, 15, 15)] :: wAll) (rm_LW_move) (gPc G [.ref hPB, .int v1, .ref hOUT] [cPB hPB hTX pb_textLength hPI hBO hLO hMT hSE, cBO hBO bo_width bo_height bo_floor bo_goals bo_live bo_boxes bo_person hBS bo_liveBesideInRow bo_liveBesideInColumn, cLO hLO lo_kept lo_moves lo_pushed hMA lo_end, cI G hMA 500 aMA, cJ G hOUT 1 aOUT] sz) (gQi G (fun (r : Int32) (u : Int64 × Int64 × Int32 × Int32 × Int32 × Int32 × (Nat → Int32) × (Nat → Int64)) => post r u.1 u.2.1 u.2.2.1 u.2.2.2.1 u.2.2.2.2.1 u.2.2.2.2.2.1 u.2.2.2.2.2.2.1 u.2.2.2.2.2.2.2) (fun (u : Int64 × Int64 × Int32 × Int32 × Int32 × Int32 × (Nat → Int32) × (Nat → Int64)) => [cPB hPB hTX pb_textLength hPI hBO hLO hMT hSE, cBO hBO bo_width bo_height bo_floor bo_goals bo_live u.1 u.2.1 hBS bo_liveBesideInRow bo_liveBesideInColumn, cLO hLO u.2.2.1 u.2.2.2.1 u.2.2.2.2.1 hMA u.2.2.2.2.2.1, cI G hMA 500 u.2.2.2.2.2.2.1, cJ G hOUT 1 u.2.2.2.2.2.2.2]) (va_A [cPB hPB hTX pb_textLength hPI hBO hLO hMT hSE, cBO hBO bo_width bo_height bo_floor bo_goals bo_live bo_boxes bo_person hBS bo_liveBesideInRow bo_liveBesideInColumn, cLO hLO lo_kept lo_moves lo_pushed hMA lo_end, cI G hMA 500 aMA, cJ G hOUT 1 aOUT] sz)) 1 6 (va_A [cPB hPB hTX pb_textLength hPI hBO hLO hMT hSE, cBO hBO bo_width bo_height bo_floor bo_goals bo_live bo_boxes bo_person hBS bo_liveBesideInRow bo_liveBesideInColumn, cLO hLO lo_kept lo_moves lo_pushed hMA lo_end, cI G hMA 500 aMA, cJ G hOUT 1 aOUT] sz) := by
  refine va_MetW (cc := cL_move) (maxL := 4) (ret := (some .int)) (by decide) rfl ?_
  intro p e s m args below meth c s₁ B hml hv
  obtain ⟨rfl, hsz, hP, hK, hD0⟩ := hv
  subst hsz
  have X := gX.ofBW (ws := [cPB hPB hTX pb_textLength hPI hBO hLO hMT hSE, cBO hBO bo_width bo_height bo_floor bo_goals bo_live bo_boxes bo_person hBS bo_liveBesideInRow bo_liveBesideInColumn, cLO hLO lo_kept lo_moves lo_pushed hMA lo_end, cI G hMA 500 aMA, cJ G hOUT 1 aOUT]) B hml hK hD0
  have hTab := vx_table (x := yL_move) B (atoms_spec B.pre _ List.mem_cons_self)
  have hD := hD0.self (sz := s.heap.size)
  generalize hAe : va_A [cPB hPB hTX pb_textLength hPI hBO hLO hMT hSE, cBO hBO bo_width bo_height bo_floor bo_goals bo_live bo_boxes bo_person hBS bo_liveBesideInRow bo_liveBesideInColumn, cLO hLO lo_kept lo_moves lo_pushed hMA lo_end, cI G hMA 500 aMA, cJ G hOUT 1 aOUT] s.heap.size = A at X hD ⊢
  have hS : va_S A s.heap s.heap [] := va_S.rf
  have hl := lv_entry ([.ref hPB, .int v1, .ref hOUT]) (n := 4) (Nat.le_of_ble_eq_true rfl)
  rw [lg_entry_eq]
  generalize (lg_sl ([.ref hPB, .int v1, .ref hOUT]) ++ List.replicate (4 - (lg_sl ([.ref hPB, .int v1, .ref hOUT])).length) Slot.unset).toArray = ls at hl ⊢
  have hl : lv_has ls 4 [(0, .ref hPB), (1, .int v1), (2, .ref hOUT)] := hl
  dsimp only [headSpec]
  unfold LW_move at h
  refine lv_aload_n X.1 X.2.1 dL_move_0 rfl (lv_at hl 2 rfl) ?_
  refine lv_iconst (v := (0 : Int32)) X.1 X.2.1 dL_move_1 (by decide) ?_
  refine lv_aload_n X.1 X.2.1 dL_move_2 rfl (lv_at hl 0 rfl) ?_
  refine lv_iload_n X.1 X.2.1 dL_move_3 rfl (lv_at hl 1 rfl) ?_
  refine g_xi (wr := [cJ G hOUT 1 aOUT]) X [0, 1, 2, 3] [4] (g_rVx (As := [.int v1]) (rest := [.int (0 : Int32), .ref hOUT]) X (c_PB_move l G hPB hTX hPI hBO hBS hLO hMA hMT hSE pb_textLength bo_width bo_height bo_floor bo_goals bo_live bo_boxes bo_person bo_liveBesideInRow bo_liveBesideInColumn lo_kept lo_moves lo_pushed lo_end aMA v1 _ _ h hl0 _) lk_L_7 rfl rfl ⟨Nat.le_of_ble_eq_true rfl, Nat.le_of_ble_eq_true rfl⟩ hP hD hS [0, 1, 2, 3] rfl rfl 0 5 rfl rfl rfl hl.1 rfl (Nat.le_of_ble_eq_true rfl) dL_move_4 ⟨Nat.le_of_ble_eq_true rfl, Nat.le_of_ble_eq_true rfl⟩) hP hD hS rfl rfl rfl (by decide) (fun E ce q9 kd u H locs h hE hP hD hS h7 h8 h9 => ?_) (fun r_1 u H locs h hP hD hS => ?_)
  · skip
    obtain ⟨bo_boxes_9, bo_person_10, lo_kept_11, lo_moves_12, lo_pushed_13, lo_end_14, aMA_15⟩ := u
    try dsimp only at h
    replace hP := hP.sub (ws' := [cPB hPB hTX pb_textLength hPI hBO hLO hMT hSE, cBO hBO bo_width bo_height bo_floor bo_goals bo_live bo_boxes_9 bo_person_10 hBS bo_liveBesideInRow bo_liveBesideInColumn, cLO hLO lo_kept_11 lo_moves_12 lo_pushed_13 hMA lo_end_14, cI G hMA 500 aMA_15, cJ G hOUT 1 aOUT]) [1, 2, 3, 4, 0] rfl
    replace hD := hD.sub (ws' := [cPB hPB hTX pb_textLength hPI hBO hLO hMT hSE, cBO hBO bo_width bo_height bo_floor bo_goals bo_live bo_boxes_9 bo_person_10 hBS bo_liveBesideInRow bo_liveBesideInColumn, cLO hLO lo_kept_11 lo_moves_12 lo_pushed_13 hMA lo_end_14, cI G hMA 500 aMA_15, cJ G hOUT 1 aOUT]) [1, 2, 3, 4, 0] rfl rfl
    by_cases hk0 : kd = (1 : Int32)
    · replace h := Eq.mp (if_pos hk0) h
      have hE2 : E = "java/lang/ArrayIndexOutOfBoundsException" := by rw [hE, hk0]; rfl
      subst hE2
      refine vx_catch X.2.2.2.1 [] ⟨0, 9, 12, 13⟩ [⟨0, 9, 15, 15⟩] (hTab.trans rfl) (fun z hz => absurd hz List.not_mem_nil) rfl (by decide) (X.2.2.2.2.1 _ cl_L_13) (va_Nw.use rfl (X.k.2.2.2.2.2.1 ("java/lang/ArrayIndexOutOfBoundsException", "java/lang/ArrayIndexOutOfBoundsException") (by decide))) h7 h8 h9 ?_
      refine lv_astore_n (lv' := [(3, .ref q9), (0, .ref hPB), (1, .int v1), (2, .ref hOUT)]) X.1 X.2.1 dL_move_12 rfl hl (by decide) rfl (fun ls hl => ?_)
      refine lv_iconst (v := (1 : Int32)) X.1 X.2.1 dL_move_13 (by decide) ?_
      refine W.widen (k := 1) (n := 6) (Nat.le_of_ble_eq_true rfl) (Nat.le_of_ble_eq_true rfl) ?_
      exact g_iret X (bo_boxes_9, bo_person_10, lo_kept_11, lo_moves_12, lo_pushed_13, lo_end_14, aMA_15, aOUT) h hP hD hS dL_move_14
    replace h := Eq.mp (if_neg hk0) h
    by_cases hk1 : kd = (2 : Int32)
    · replace h := Eq.mp (if_pos hk1) h
      have hE2 : E = "java/lang/IllegalStateException" := by rw [hE, hk1]; rfl
      subst hE2
      refine vx_catch X.2.2.2.1 [⟨0, 9, 12, 13⟩] ⟨0, 9, 15, 15⟩ [] (hTab.trans rfl) (fun z hz => by rw [List.mem_singleton.mp hz]; exact Or.inr ⟨by decide, "java/lang/ArrayIndexOutOfBoundsException", X.2.2.2.2.1 _ cl_L_13, X.k.2.2.2.2.2.2⟩) rfl (by decide) (X.2.2.2.2.1 _ cl_L_15) (va_Nw.use rfl (X.k.2.2.2.2.2.1 ("java/lang/IllegalStateException", "java/lang/IllegalStateException") (by decide))) h7 h8 h9 ?_
      refine lv_astore_n (lv' := [(3, .ref q9), (0, .ref hPB), (1, .int v1), (2, .ref hOUT)]) X.1 X.2.1 dL_move_15 rfl hl (by decide) rfl (fun ls hl => ?_)
      refine lv_iconst (v := (2 : Int32)) X.1 X.2.1 dL_move_16 (by decide) ?_
      refine W.widen (k := 1) (n := 6) (Nat.le_of_ble_eq_true rfl) (Nat.le_of_ble_eq_true rfl) ?_
      exact g_iret X (bo_boxes_9, bo_person_10, lo_kept_11, lo_moves_12, lo_pushed_13, lo_end_14, aMA_15, aOUT) h hP hD hS dL_move_17
    replace h := Eq.mp (if_neg hk1) h
    exact h.elim
  obtain ⟨bo_boxes_2, bo_person_3, lo_kept_4, lo_moves_5, lo_pushed_6, lo_end_7, aMA_8⟩ := u
  try dsimp only at h
  replace hP := hP.sub (ws' := [cPB hPB hTX pb_textLength hPI hBO hLO hMT hSE, cBO hBO bo_width bo_height bo_floor bo_goals bo_live bo_boxes_2 bo_person_3 hBS bo_liveBesideInRow bo_liveBesideInColumn, cLO hLO lo_kept_4 lo_moves_5 lo_pushed_6 hMA lo_end_7, cI G hMA 500 aMA_8, cJ G hOUT 1 aOUT]) [1, 2, 3, 4, 0] rfl
  replace hD := hD.sub (ws' := [cPB hPB hTX pb_textLength hPI hBO hLO hMT hSE, cBO hBO bo_width bo_height bo_floor bo_goals bo_live bo_boxes_2 bo_person_3 hBS bo_liveBesideInRow bo_liveBesideInColumn, cLO hLO lo_kept_4 lo_moves_5 lo_pushed_6 hMA lo_end_7, cI G hMA 500 aMA_8, cJ G hOUT 1 aOUT]) [1, 2, 3, 4, 0] rfl rfl
  refine lv_i2l (v := r_1.toInt64) X.1 X.2.1 dL_move_7 rfl ?_
  obtain ⟨hin, h⟩ := h
  refine g_lst X hP hD hS 4 rfl hin dL_move_8 (fun aOUT_17 e_aOUT_17 H locs hP hD hS => ?_)
  replace h := h aOUT_17 e_aOUT_17
  replace hP : va_P G.1 gCl [cPB hPB hTX pb_textLength hPI hBO hLO hMT hSE, cBO hBO bo_width bo_height bo_floor bo_goals bo_live bo_boxes_2 bo_person_3 hBS bo_liveBesideInRow bo_liveBesideInColumn, cLO hLO lo_kept_4 lo_moves_5 lo_pushed_6 hMA lo_end_7, cI G hMA 500 aMA_8, cJ G hOUT 1 aOUT_17] H := hP
  replace hD : va_D A [cPB hPB hTX pb_textLength hPI hBO hLO hMT hSE, cBO hBO bo_width bo_height bo_floor bo_goals bo_live bo_boxes_2 bo_person_3 hBS bo_liveBesideInRow bo_liveBesideInColumn, cLO hLO lo_kept_4 lo_moves_5 lo_pushed_6 hMA lo_end_7, cI G hMA 500 aMA_8, cJ G hOUT 1 aOUT_17] := hD
  refine lv_goto (tgt := 18) X.1 X.2.1 dL_move_9 (by decide) ?_
  refine lv_iconst (v := (0 : Int32)) X.1 X.2.1 dL_move_18 (by decide) ?_
  refine W.widen (k := 1) (n := 6) (Nat.le_of_ble_eq_true rfl) (Nat.le_of_ble_eq_true rfl) ?_
  exact g_iret X (bo_boxes_2, bo_person_3, lo_kept_4, lo_moves_5, lo_pushed_6, lo_end_7, aMA_8, aOUT_17) h hP hD hS dL_move_19
abbrev rm_LW_way : Room := { frames := 10, cells := 1, slots := 6, locals := 217 }
set_option maxHeartbeats 4000000 in
set_option maxRecDepth 100000 in
theorem c_LW_way (l : Launch) (G : gEnv) (hPB : Nat) (hTX : Nat) (hPI : Nat) (hBO : Nat) (hBS : Nat) (hLO : Nat) (hMT : Nat) (hSE : Nat) (hOUT : Nat) (pb_textLength : Int32) (bo_width : Int32) (bo_height : Int32) (bo_floor : Int64) (bo_goals : Int64) (bo_live : Int64) (bo_boxes : Int64) (bo_person : Int64) (bo_liveBesideInRow : Int64) (bo_liveBesideInColumn : Int64) (aOUT : Nat → Int64) (v1 : Int32) (v2 : Int32) (post : Int32 → (Nat → Int64) → Prop) (h : LW_way bo_width bo_height bo_floor bo_boxes bo_person aOUT v1 v2 post) (hl0 : l.stackTraces = false) (sz : Nat) : Met l yL_way (Cond.codeWith yL_way cL_way 5 (some .int) [(0, 10, 13, 13)] :: wAll) (rm_LW_way) (gPc G [.ref hPB, .int v1, .int v2, .ref hOUT] [cPB hPB hTX pb_textLength hPI hBO hLO hMT hSE, cBO hBO bo_width bo_height bo_floor bo_goals bo_live bo_boxes bo_person hBS bo_liveBesideInRow bo_liveBesideInColumn, cJ G hOUT 1 aOUT] sz) (gQi G (fun (r : Int32) (u : (Nat → Int64)) => post r u) (fun (u : (Nat → Int64)) => [cPB hPB hTX pb_textLength hPI hBO hLO hMT hSE, cBO hBO bo_width bo_height bo_floor bo_goals bo_live bo_boxes bo_person hBS bo_liveBesideInRow bo_liveBesideInColumn, cJ G hOUT 1 u]) (va_A [cPB hPB hTX pb_textLength hPI hBO hLO hMT hSE, cBO hBO bo_width bo_height bo_floor bo_goals bo_live bo_boxes bo_person hBS bo_liveBesideInRow bo_liveBesideInColumn, cJ G hOUT 1 aOUT] sz)) 1 6 (va_A [cPB hPB hTX pb_textLength hPI hBO hLO hMT hSE, cBO hBO bo_width bo_height bo_floor bo_goals bo_live bo_boxes bo_person hBS bo_liveBesideInRow bo_liveBesideInColumn, cJ G hOUT 1 aOUT] sz) := by
  refine va_MetW (cc := cL_way) (maxL := 5) (ret := (some .int)) (by decide) rfl ?_
  intro p e s m args below meth c s₁ B hml hv
  obtain ⟨rfl, hsz, hP, hK, hD0⟩ := hv
  subst hsz
  have X := gX.ofBW (ws := [cPB hPB hTX pb_textLength hPI hBO hLO hMT hSE, cBO hBO bo_width bo_height bo_floor bo_goals bo_live bo_boxes bo_person hBS bo_liveBesideInRow bo_liveBesideInColumn, cJ G hOUT 1 aOUT]) B hml hK hD0
  have hTab := vx_table (x := yL_way) B (atoms_spec B.pre _ List.mem_cons_self)
  have hD := hD0.self (sz := s.heap.size)
  generalize hAe : va_A [cPB hPB hTX pb_textLength hPI hBO hLO hMT hSE, cBO hBO bo_width bo_height bo_floor bo_goals bo_live bo_boxes bo_person hBS bo_liveBesideInRow bo_liveBesideInColumn, cJ G hOUT 1 aOUT] s.heap.size = A at X hD ⊢
  have hS : va_S A s.heap s.heap [] := va_S.rf
  have hl := lv_entry ([.ref hPB, .int v1, .int v2, .ref hOUT]) (n := 5) (Nat.le_of_ble_eq_true rfl)
  rw [lg_entry_eq]
  generalize (lg_sl ([.ref hPB, .int v1, .int v2, .ref hOUT]) ++ List.replicate (5 - (lg_sl ([.ref hPB, .int v1, .int v2, .ref hOUT])).length) Slot.unset).toArray = ls at hl ⊢
  have hl : lv_has ls 5 [(0, .ref hPB), (1, .int v1), (2, .int v2), (3, .ref hOUT)] := hl
  dsimp only [headSpec]
  unfold LW_way at h
  refine lv_aload_n X.1 X.2.1 dL_way_0 rfl (lv_at hl 3 rfl) ?_
  refine lv_iconst (v := (0 : Int32)) X.1 X.2.1 dL_way_1 (by decide) ?_
  refine lv_aload_n X.1 X.2.1 dL_way_2 rfl (lv_at hl 0 rfl) ?_
  refine lv_iload_n X.1 X.2.1 dL_way_3 rfl (lv_at hl 1 rfl) ?_
  refine lv_iload_n X.1 X.2.1 dL_way_4 rfl (lv_at hl 2 rfl) ?_
  refine g_xi (wr := [cJ G hOUT 1 aOUT]) X [0, 1] [2] (g_rVx (As := [.int v1, .int v2]) (rest := [.int (0 : Int32), .ref hOUT]) X (c_PB_way l G hPB hTX hPI hBO hBS hLO hMT hSE pb_textLength bo_width bo_height bo_floor bo_goals bo_live bo_boxes bo_person bo_liveBesideInRow bo_liveBesideInColumn v1 v2 _ _ h hl0 _) lk_L_17 rfl rfl ⟨Nat.le_of_ble_eq_true rfl, Nat.le_of_ble_eq_true rfl⟩ hP hD hS [0, 1] rfl rfl 0 5 rfl rfl rfl hl.1 rfl (Nat.le_of_ble_eq_true rfl) dL_way_5 ⟨Nat.le_of_ble_eq_true rfl, Nat.le_of_ble_eq_true rfl⟩) hP hD hS rfl rfl rfl (by decide) (fun E ce q9 kd u H locs h hE hP hD hS h7 h8 h9 => ?_) (fun r_1 u H locs h hP hD hS => ?_)
  · skip
    try dsimp only at h
    replace hP := hP.sub (ws' := [cPB hPB hTX pb_textLength hPI hBO hLO hMT hSE, cBO hBO bo_width bo_height bo_floor bo_goals bo_live bo_boxes bo_person hBS bo_liveBesideInRow bo_liveBesideInColumn, cJ G hOUT 1 aOUT]) [1, 2, 0] rfl
    replace hD := hD.sub (ws' := [cPB hPB hTX pb_textLength hPI hBO hLO hMT hSE, cBO hBO bo_width bo_height bo_floor bo_goals bo_live bo_boxes bo_person hBS bo_liveBesideInRow bo_liveBesideInColumn, cJ G hOUT 1 aOUT]) [1, 2, 0] rfl rfl
    by_cases hk0 : kd = (1 : Int32)
    · replace h := Eq.mp (if_pos hk0) h
      have hE2 : E = "java/lang/ArrayIndexOutOfBoundsException" := by rw [hE, hk0]; rfl
      subst hE2
      refine vx_catch X.2.2.2.1 [] ⟨0, 10, 13, 13⟩ [] (hTab.trans rfl) (fun z hz => absurd hz List.not_mem_nil) rfl (by decide) (X.2.2.2.2.1 _ cl_L_13) (va_Nw.use rfl (X.k.2.2.2.2.2.1 ("java/lang/ArrayIndexOutOfBoundsException", "java/lang/ArrayIndexOutOfBoundsException") (by decide))) h7 h8 h9 ?_
      refine lv_astore (lv' := [(4, .ref q9), (0, .ref hPB), (1, .int v1), (2, .int v2), (3, .ref hOUT)]) X.1 X.2.1 dL_way_13 hl (by decide) rfl (fun ls hl => ?_)
      refine lv_iconst (v := (1 : Int32)) X.1 X.2.1 dL_way_15 (by decide) ?_
      refine W.widen (k := 1) (n := 6) (Nat.le_of_ble_eq_true rfl) (Nat.le_of_ble_eq_true rfl) ?_
      exact g_iret X aOUT h hP hD hS dL_way_16
    replace h := Eq.mp (if_neg hk0) h
    exact h.elim
  try dsimp only at h
  replace hP := hP.sub (ws' := [cPB hPB hTX pb_textLength hPI hBO hLO hMT hSE, cBO hBO bo_width bo_height bo_floor bo_goals bo_live bo_boxes bo_person hBS bo_liveBesideInRow bo_liveBesideInColumn, cJ G hOUT 1 aOUT]) [1, 2, 0] rfl
  replace hD := hD.sub (ws' := [cPB hPB hTX pb_textLength hPI hBO hLO hMT hSE, cBO hBO bo_width bo_height bo_floor bo_goals bo_live bo_boxes bo_person hBS bo_liveBesideInRow bo_liveBesideInColumn, cJ G hOUT 1 aOUT]) [1, 2, 0] rfl rfl
  refine lv_i2l (v := r_1.toInt64) X.1 X.2.1 dL_way_8 rfl ?_
  obtain ⟨hin, h⟩ := h
  refine g_lst X hP hD hS 2 rfl hin dL_way_9 (fun aOUT_3 e_aOUT_3 H locs hP hD hS => ?_)
  replace h := h aOUT_3 e_aOUT_3
  replace hP : va_P G.1 gCl [cPB hPB hTX pb_textLength hPI hBO hLO hMT hSE, cBO hBO bo_width bo_height bo_floor bo_goals bo_live bo_boxes bo_person hBS bo_liveBesideInRow bo_liveBesideInColumn, cJ G hOUT 1 aOUT_3] H := hP
  replace hD : va_D A [cPB hPB hTX pb_textLength hPI hBO hLO hMT hSE, cBO hBO bo_width bo_height bo_floor bo_goals bo_live bo_boxes bo_person hBS bo_liveBesideInRow bo_liveBesideInColumn, cJ G hOUT 1 aOUT_3] := hD
  refine lv_goto (tgt := 17) X.1 X.2.1 dL_way_10 (by decide) ?_
  refine lv_iconst (v := (0 : Int32)) X.1 X.2.1 dL_way_17 (by decide) ?_
  refine W.widen (k := 1) (n := 6) (Nat.le_of_ble_eq_true rfl) (Nat.le_of_ble_eq_true rfl) ?_
  exact g_iret X aOUT_3 h hP hD hS dL_way_18
abbrev rm_LW_dead : Room := { frames := 10, cells := 1, slots := 6, locals := 217 }
set_option maxHeartbeats 4000000 in
set_option maxRecDepth 100000 in
theorem c_LW_dead (l : Launch) (G : gEnv) (hPB : Nat) (hTX : Nat) (hPI : Nat) (hBO : Nat) (hBS : Nat) (hLO : Nat) (hMT : Nat) (hSE : Nat) (hOUT : Nat) (pb_textLength : Int32) (bo_width : Int32) (bo_height : Int32) (bo_floor : Int64) (bo_goals : Int64) (bo_live : Int64) (bo_boxes : Int64) (bo_person : Int64) (bo_liveBesideInRow : Int64) (bo_liveBesideInColumn : Int64) (aOUT : Nat → Int64) (v1 : Int32) (v2 : Int32) (post : Int32 → (Nat → Int64) → Prop) (h : LW_dead bo_width bo_height bo_floor bo_live aOUT v1 v2 post) (hl0 : l.stackTraces = false) (sz : Nat) : Met l yL_dead (Cond.codeWith yL_dead cL_dead 5 (some .int) [(0, 17, 20, 13)] :: wAll) (rm_LW_dead) (gPc G [.ref hPB, .int v1, .int v2, .ref hOUT] [cPB hPB hTX pb_textLength hPI hBO hLO hMT hSE, cBO hBO bo_width bo_height bo_floor bo_goals bo_live bo_boxes bo_person hBS bo_liveBesideInRow bo_liveBesideInColumn, cJ G hOUT 1 aOUT] sz) (gQi G (fun (r : Int32) (u : (Nat → Int64)) => post r u) (fun (u : (Nat → Int64)) => [cPB hPB hTX pb_textLength hPI hBO hLO hMT hSE, cBO hBO bo_width bo_height bo_floor bo_goals bo_live bo_boxes bo_person hBS bo_liveBesideInRow bo_liveBesideInColumn, cJ G hOUT 1 u]) (va_A [cPB hPB hTX pb_textLength hPI hBO hLO hMT hSE, cBO hBO bo_width bo_height bo_floor bo_goals bo_live bo_boxes bo_person hBS bo_liveBesideInRow bo_liveBesideInColumn, cJ G hOUT 1 aOUT] sz)) 1 6 (va_A [cPB hPB hTX pb_textLength hPI hBO hLO hMT hSE, cBO hBO bo_width bo_height bo_floor bo_goals bo_live bo_boxes bo_person hBS bo_liveBesideInRow bo_liveBesideInColumn, cJ G hOUT 1 aOUT] sz) := by
  refine va_MetW (cc := cL_dead) (maxL := 5) (ret := (some .int)) (by decide) rfl ?_
  intro p e s m args below meth c s₁ B hml hv
  obtain ⟨rfl, hsz, hP, hK, hD0⟩ := hv
  subst hsz
  have X := gX.ofBW (ws := [cPB hPB hTX pb_textLength hPI hBO hLO hMT hSE, cBO hBO bo_width bo_height bo_floor bo_goals bo_live bo_boxes bo_person hBS bo_liveBesideInRow bo_liveBesideInColumn, cJ G hOUT 1 aOUT]) B hml hK hD0
  have hTab := vx_table (x := yL_dead) B (atoms_spec B.pre _ List.mem_cons_self)
  have hD := hD0.self (sz := s.heap.size)
  generalize hAe : va_A [cPB hPB hTX pb_textLength hPI hBO hLO hMT hSE, cBO hBO bo_width bo_height bo_floor bo_goals bo_live bo_boxes bo_person hBS bo_liveBesideInRow bo_liveBesideInColumn, cJ G hOUT 1 aOUT] s.heap.size = A at X hD ⊢
  have hS : va_S A s.heap s.heap [] := va_S.rf
  have hl := lv_entry ([.ref hPB, .int v1, .int v2, .ref hOUT]) (n := 5) (Nat.le_of_ble_eq_true rfl)
  rw [lg_entry_eq]
  generalize (lg_sl ([.ref hPB, .int v1, .int v2, .ref hOUT]) ++ List.replicate (5 - (lg_sl ([.ref hPB, .int v1, .int v2, .ref hOUT])).length) Slot.unset).toArray = ls at hl ⊢
  have hl : lv_has ls 5 [(0, .ref hPB), (1, .int v1), (2, .int v2), (3, .ref hOUT)] := hl
  dsimp only [headSpec]
  unfold LW_dead at h
  refine lv_aload_n X.1 X.2.1 dL_dead_0 rfl (lv_at hl 3 rfl) ?_
  refine lv_iconst (v := (0 : Int32)) X.1 X.2.1 dL_dead_1 (by decide) ?_
  refine lv_aload_n X.1 X.2.1 dL_dead_2 rfl (lv_at hl 0 rfl) ?_
  refine lv_iload_n X.1 X.2.1 dL_dead_3 rfl (lv_at hl 1 rfl) ?_
  refine lv_iload_n X.1 X.2.1 dL_dead_4 rfl (lv_at hl 2 rfl) ?_
  refine g_xi (wr := [cJ G hOUT 1 aOUT]) X [0, 1] [2] (g_rVx (As := [.int v1, .int v2]) (rest := [.int (0 : Int32), .ref hOUT]) X (c_PB_dead l G hPB hTX hPI hBO hBS hLO hMT hSE pb_textLength bo_width bo_height bo_floor bo_goals bo_live bo_boxes bo_person bo_liveBesideInRow bo_liveBesideInColumn v1 v2 _ _ h hl0 _) lk_L_21 rfl rfl ⟨Nat.le_of_ble_eq_true rfl, Nat.le_of_ble_eq_true rfl⟩ hP hD hS [0, 1] rfl rfl 0 5 rfl rfl rfl hl.1 rfl (Nat.le_of_ble_eq_true rfl) dL_dead_5 ⟨Nat.le_of_ble_eq_true rfl, Nat.le_of_ble_eq_true rfl⟩) hP hD hS rfl rfl rfl (by decide) (fun E ce q9 kd u H locs h hE hP hD hS h7 h8 h9 => ?_) (fun r_1 u H locs h hP hD hS => ?_)
  · skip
    try dsimp only at h
    replace hP := hP.sub (ws' := [cPB hPB hTX pb_textLength hPI hBO hLO hMT hSE, cBO hBO bo_width bo_height bo_floor bo_goals bo_live bo_boxes bo_person hBS bo_liveBesideInRow bo_liveBesideInColumn, cJ G hOUT 1 aOUT]) [1, 2, 0] rfl
    replace hD := hD.sub (ws' := [cPB hPB hTX pb_textLength hPI hBO hLO hMT hSE, cBO hBO bo_width bo_height bo_floor bo_goals bo_live bo_boxes bo_person hBS bo_liveBesideInRow bo_liveBesideInColumn, cJ G hOUT 1 aOUT]) [1, 2, 0] rfl rfl
    by_cases hk0 : kd = (1 : Int32)
    · replace h := Eq.mp (if_pos hk0) h
      have hE2 : E = "java/lang/ArrayIndexOutOfBoundsException" := by rw [hE, hk0]; rfl
      subst hE2
      refine vx_catch X.2.2.2.1 [] ⟨0, 17, 20, 13⟩ [] (hTab.trans rfl) (fun z hz => absurd hz List.not_mem_nil) rfl (by decide) (X.2.2.2.2.1 _ cl_L_13) (va_Nw.use rfl (X.k.2.2.2.2.2.1 ("java/lang/ArrayIndexOutOfBoundsException", "java/lang/ArrayIndexOutOfBoundsException") (by decide))) h7 h8 h9 ?_
      refine lv_astore (lv' := [(4, .ref q9), (0, .ref hPB), (1, .int v1), (2, .int v2), (3, .ref hOUT)]) X.1 X.2.1 dL_dead_20 hl (by decide) rfl (fun ls hl => ?_)
      refine lv_iconst (v := (1 : Int32)) X.1 X.2.1 dL_dead_22 (by decide) ?_
      refine W.widen (k := 1) (n := 6) (Nat.le_of_ble_eq_true rfl) (Nat.le_of_ble_eq_true rfl) ?_
      exact g_iret X aOUT h hP hD hS dL_dead_23
    replace h := Eq.mp (if_neg hk0) h
    exact h.elim
  try dsimp only at h
  replace hP := hP.sub (ws' := [cPB hPB hTX pb_textLength hPI hBO hLO hMT hSE, cBO hBO bo_width bo_height bo_floor bo_goals bo_live bo_boxes bo_person hBS bo_liveBesideInRow bo_liveBesideInColumn, cJ G hOUT 1 aOUT]) [1, 2, 0] rfl
  replace hD := hD.sub (ws' := [cPB hPB hTX pb_textLength hPI hBO hLO hMT hSE, cBO hBO bo_width bo_height bo_floor bo_goals bo_live bo_boxes bo_person hBS bo_liveBesideInRow bo_liveBesideInColumn, cJ G hOUT 1 aOUT]) [1, 2, 0] rfl rfl
  refine lv_if_eq (tgt := 15) X.1 X.2.1 dL_dead_8 (by decide) (fun hc => ?_) (fun hc => ?_)
  · replace h := Eq.mp (if_pos hc) h
    refine lv_lconst (v := (0 : Int64)) X.1 X.2.1 dL_dead_15 (by decide) ?_
    obtain ⟨hin, h⟩ := h
    refine g_lst X hP hD hS 2 rfl hin dL_dead_16 (fun aOUT_3 e_aOUT_3 H locs hP hD hS => ?_)
    replace h := h aOUT_3 e_aOUT_3
    replace hP : va_P G.1 gCl [cPB hPB hTX pb_textLength hPI hBO hLO hMT hSE, cBO hBO bo_width bo_height bo_floor bo_goals bo_live bo_boxes bo_person hBS bo_liveBesideInRow bo_liveBesideInColumn, cJ G hOUT 1 aOUT_3] H := hP
    replace hD : va_D A [cPB hPB hTX pb_textLength hPI hBO hLO hMT hSE, cBO hBO bo_width bo_height bo_floor bo_goals bo_live bo_boxes bo_person hBS bo_liveBesideInRow bo_liveBesideInColumn, cJ G hOUT 1 aOUT_3] := hD
    refine lv_goto (tgt := 24) X.1 X.2.1 dL_dead_17 (by decide) ?_
    refine lv_iconst (v := (0 : Int32)) X.1 X.2.1 dL_dead_24 (by decide) ?_
    refine W.widen (k := 1) (n := 6) (Nat.le_of_ble_eq_true rfl) (Nat.le_of_ble_eq_true rfl) ?_
    exact g_iret X aOUT_3 h hP hD hS dL_dead_25
  · replace h := Eq.mp (if_neg hc) h
    refine lv_lconst (v := (1 : Int64)) X.1 X.2.1 dL_dead_11 (by decide) ?_
    refine lv_goto (tgt := 16) X.1 X.2.1 dL_dead_12 (by decide) ?_
    obtain ⟨hin, h⟩ := h
    refine g_lst X hP hD hS 2 rfl hin dL_dead_16 (fun aOUT_4 e_aOUT_4 H locs hP hD hS => ?_)
    replace h := h aOUT_4 e_aOUT_4
    replace hP : va_P G.1 gCl [cPB hPB hTX pb_textLength hPI hBO hLO hMT hSE, cBO hBO bo_width bo_height bo_floor bo_goals bo_live bo_boxes bo_person hBS bo_liveBesideInRow bo_liveBesideInColumn, cJ G hOUT 1 aOUT_4] H := hP
    replace hD : va_D A [cPB hPB hTX pb_textLength hPI hBO hLO hMT hSE, cBO hBO bo_width bo_height bo_floor bo_goals bo_live bo_boxes bo_person hBS bo_liveBesideInRow bo_liveBesideInColumn, cJ G hOUT 1 aOUT_4] := hD
    refine lv_goto (tgt := 24) X.1 X.2.1 dL_dead_17 (by decide) ?_
    refine lv_iconst (v := (0 : Int32)) X.1 X.2.1 dL_dead_24 (by decide) ?_
    refine W.widen (k := 1) (n := 6) (Nat.le_of_ble_eq_true rfl) (Nat.le_of_ble_eq_true rfl) ?_
    exact g_iret X aOUT_4 h hP hD hS dL_dead_25
abbrev rm_LW_pushes : Room := { frames := 10, cells := 2, slots := 12, locals := 223 }
set_option maxHeartbeats 4000000 in
set_option maxRecDepth 100000 in
theorem c_LW_pushes (l : Launch) (G : gEnv) (hPB : Nat) (hTX : Nat) (hPI : Nat) (hBO : Nat) (hBS : Nat) (hLO : Nat) (hMT : Nat) (hSE : Nat) (hOUT : Nat) (pb_textLength : Int32) (bo_width : Int32) (bo_height : Int32) (bo_floor : Int64) (bo_goals : Int64) (bo_live : Int64) (bo_boxes : Int64) (bo_person : Int64) (bo_liveBesideInRow : Int64) (bo_liveBesideInColumn : Int64) (aBS : Nat → Int32) (aOUT : Nat → Int64) (v1 : Int32) (v2 : Int32) (v3 : Int32) (v4 : Int32) (post : Int32 → (Nat → Int32) → (Nat → Int64) → Prop) (h : LW_pushes bo_width bo_height bo_floor aBS aOUT v1 v2 v3 v4 post) (hl0 : l.stackTraces = false) (sz : Nat) : Met l yL_pushes (Cond.codeWith yL_pushes cL_pushes 7 (some .int) [(0, 14, 17, 13)] :: wAll) (rm_LW_pushes) (gPc G [.ref hPB, .int v1, .int v2, .int v3, .int v4, .ref hOUT] [cPB hPB hTX pb_textLength hPI hBO hLO hMT hSE, cBO hBO bo_width bo_height bo_floor bo_goals bo_live bo_boxes bo_person hBS bo_liveBesideInRow bo_liveBesideInColumn, cI G hBS 64 aBS, cJ G hOUT 1 aOUT] sz) (gQi G (fun (r : Int32) (u : (Nat → Int32) × (Nat → Int64)) => post r u.1 u.2) (fun (u : (Nat → Int32) × (Nat → Int64)) => [cPB hPB hTX pb_textLength hPI hBO hLO hMT hSE, cBO hBO bo_width bo_height bo_floor bo_goals bo_live bo_boxes bo_person hBS bo_liveBesideInRow bo_liveBesideInColumn, cI G hBS 64 u.1, cJ G hOUT 1 u.2]) (va_A [cPB hPB hTX pb_textLength hPI hBO hLO hMT hSE, cBO hBO bo_width bo_height bo_floor bo_goals bo_live bo_boxes bo_person hBS bo_liveBesideInRow bo_liveBesideInColumn, cI G hBS 64 aBS, cJ G hOUT 1 aOUT] sz)) 2 12 (va_A [cPB hPB hTX pb_textLength hPI hBO hLO hMT hSE, cBO hBO bo_width bo_height bo_floor bo_goals bo_live bo_boxes bo_person hBS bo_liveBesideInRow bo_liveBesideInColumn, cI G hBS 64 aBS, cJ G hOUT 1 aOUT] sz) := by
  refine va_MetW (cc := cL_pushes) (maxL := 7) (ret := (some .int)) (by decide) rfl ?_
  intro p e s m args below meth c s₁ B hml hv
  obtain ⟨rfl, hsz, hP, hK, hD0⟩ := hv
  subst hsz
  have X := gX.ofBW (ws := [cPB hPB hTX pb_textLength hPI hBO hLO hMT hSE, cBO hBO bo_width bo_height bo_floor bo_goals bo_live bo_boxes bo_person hBS bo_liveBesideInRow bo_liveBesideInColumn, cI G hBS 64 aBS, cJ G hOUT 1 aOUT]) B hml hK hD0
  have hTab := vx_table (x := yL_pushes) B (atoms_spec B.pre _ List.mem_cons_self)
  have hD := hD0.self (sz := s.heap.size)
  generalize hAe : va_A [cPB hPB hTX pb_textLength hPI hBO hLO hMT hSE, cBO hBO bo_width bo_height bo_floor bo_goals bo_live bo_boxes bo_person hBS bo_liveBesideInRow bo_liveBesideInColumn, cI G hBS 64 aBS, cJ G hOUT 1 aOUT] s.heap.size = A at X hD ⊢
  have hS : va_S A s.heap s.heap [] := va_S.rf
  have hl := lv_entry ([.ref hPB, .int v1, .int v2, .int v3, .int v4, .ref hOUT]) (n := 7) (Nat.le_of_ble_eq_true rfl)
  rw [lg_entry_eq]
  generalize (lg_sl ([.ref hPB, .int v1, .int v2, .int v3, .int v4, .ref hOUT]) ++ List.replicate (7 - (lg_sl ([.ref hPB, .int v1, .int v2, .int v3, .int v4, .ref hOUT])).length) Slot.unset).toArray = ls at hl ⊢
  have hl : lv_has ls 7 [(0, .ref hPB), (1, .int v1), (2, .int v2), (3, .int v3), (4, .int v4), (5, .ref hOUT)] := hl
  dsimp only [headSpec]
  unfold LW_pushes at h
  refine lv_aload X.1 X.2.1 dL_pushes_0 (lv_at hl 5 rfl) ?_
  refine lv_iconst (v := (0 : Int32)) X.1 X.2.1 dL_pushes_2 (by decide) ?_
  refine lv_aload_n X.1 X.2.1 dL_pushes_3 rfl (lv_at hl 0 rfl) ?_
  refine lv_iload_n X.1 X.2.1 dL_pushes_4 rfl (lv_at hl 1 rfl) ?_
  refine lv_iload_n X.1 X.2.1 dL_pushes_5 rfl (lv_at hl 2 rfl) ?_
  refine lv_iload_n X.1 X.2.1 dL_pushes_6 rfl (lv_at hl 3 rfl) ?_
  refine lv_iload X.1 X.2.1 dL_pushes_7 (lv_at hl 4 rfl) ?_
  refine g_xi (wr := [cJ G hOUT 1 aOUT]) X [0, 1, 2] [3] (g_rVx (As := [.int v1, .int v2, .int v3, .int v4]) (rest := [.int (0 : Int32), .ref hOUT]) X (c_PB_pushes l G hPB hTX hPI hBO hBS hLO hMT hSE pb_textLength bo_width bo_height bo_floor bo_goals bo_live bo_boxes bo_person bo_liveBesideInRow bo_liveBesideInColumn aBS v1 v2 v3 v4 _ _ h hl0 _) lk_L_25 rfl rfl ⟨Nat.le_of_ble_eq_true rfl, Nat.le_of_ble_eq_true rfl⟩ hP hD hS [0, 1, 2] rfl rfl 0 5 rfl rfl rfl hl.1 rfl (Nat.le_of_ble_eq_true rfl) dL_pushes_9 ⟨Nat.le_of_ble_eq_true rfl, Nat.le_of_ble_eq_true rfl⟩) hP hD hS rfl rfl rfl (by decide) (fun E ce q9 kd u H locs h hE hP hD hS h7 h8 h9 => ?_) (fun r_1 u H locs h hP hD hS => ?_)
  · skip
    obtain ⟨aBS_3, rfl⟩ : ∃ z, z = u := ⟨_, rfl⟩
    try dsimp only at h
    replace hP := hP.sub (ws' := [cPB hPB hTX pb_textLength hPI hBO hLO hMT hSE, cBO hBO bo_width bo_height bo_floor bo_goals bo_live bo_boxes bo_person hBS bo_liveBesideInRow bo_liveBesideInColumn, cI G hBS 64 aBS_3, cJ G hOUT 1 aOUT]) [1, 2, 3, 0] rfl
    replace hD := hD.sub (ws' := [cPB hPB hTX pb_textLength hPI hBO hLO hMT hSE, cBO hBO bo_width bo_height bo_floor bo_goals bo_live bo_boxes bo_person hBS bo_liveBesideInRow bo_liveBesideInColumn, cI G hBS 64 aBS_3, cJ G hOUT 1 aOUT]) [1, 2, 3, 0] rfl rfl
    by_cases hk0 : kd = (1 : Int32)
    · replace h := Eq.mp (if_pos hk0) h
      have hE2 : E = "java/lang/ArrayIndexOutOfBoundsException" := by rw [hE, hk0]; rfl
      subst hE2
      refine vx_catch X.2.2.2.1 [] ⟨0, 14, 17, 13⟩ [] (hTab.trans rfl) (fun z hz => absurd hz List.not_mem_nil) rfl (by decide) (X.2.2.2.2.1 _ cl_L_13) (va_Nw.use rfl (X.k.2.2.2.2.2.1 ("java/lang/ArrayIndexOutOfBoundsException", "java/lang/ArrayIndexOutOfBoundsException") (by decide))) h7 h8 h9 ?_
      refine lv_astore (lv' := [(6, .ref q9), (0, .ref hPB), (1, .int v1), (2, .int v2), (3, .int v3), (4, .int v4), (5, .ref hOUT)]) X.1 X.2.1 dL_pushes_17 hl (by decide) rfl (fun ls hl => ?_)
      refine lv_iconst (v := (1 : Int32)) X.1 X.2.1 dL_pushes_19 (by decide) ?_
      refine W.widen (k := 2) (n := 12) (Nat.le_of_ble_eq_true rfl) (Nat.le_of_ble_eq_true rfl) ?_
      exact g_iret X (aBS_3, aOUT) h hP hD hS dL_pushes_20
    replace h := Eq.mp (if_neg hk0) h
    exact h.elim
  obtain ⟨aBS_2, rfl⟩ : ∃ z, z = u := ⟨_, rfl⟩
  try dsimp only at h
  replace hP := hP.sub (ws' := [cPB hPB hTX pb_textLength hPI hBO hLO hMT hSE, cBO hBO bo_width bo_height bo_floor bo_goals bo_live bo_boxes bo_person hBS bo_liveBesideInRow bo_liveBesideInColumn, cI G hBS 64 aBS_2, cJ G hOUT 1 aOUT]) [1, 2, 3, 0] rfl
  replace hD := hD.sub (ws' := [cPB hPB hTX pb_textLength hPI hBO hLO hMT hSE, cBO hBO bo_width bo_height bo_floor bo_goals bo_live bo_boxes bo_person hBS bo_liveBesideInRow bo_liveBesideInColumn, cI G hBS 64 aBS_2, cJ G hOUT 1 aOUT]) [1, 2, 3, 0] rfl rfl
  refine lv_i2l (v := r_1.toInt64) X.1 X.2.1 dL_pushes_12 rfl ?_
  obtain ⟨hin, h⟩ := h
  refine g_lst X hP hD hS 3 rfl hin dL_pushes_13 (fun aOUT_5 e_aOUT_5 H locs hP hD hS => ?_)
  replace h := h aOUT_5 e_aOUT_5
  replace hP : va_P G.1 gCl [cPB hPB hTX pb_textLength hPI hBO hLO hMT hSE, cBO hBO bo_width bo_height bo_floor bo_goals bo_live bo_boxes bo_person hBS bo_liveBesideInRow bo_liveBesideInColumn, cI G hBS 64 aBS_2, cJ G hOUT 1 aOUT_5] H := hP
  replace hD : va_D A [cPB hPB hTX pb_textLength hPI hBO hLO hMT hSE, cBO hBO bo_width bo_height bo_floor bo_goals bo_live bo_boxes bo_person hBS bo_liveBesideInRow bo_liveBesideInColumn, cI G hBS 64 aBS_2, cJ G hOUT 1 aOUT_5] := hD
  refine lv_goto (tgt := 21) X.1 X.2.1 dL_pushes_14 (by decide) ?_
  refine lv_iconst (v := (0 : Int32)) X.1 X.2.1 dL_pushes_21 (by decide) ?_
  refine W.widen (k := 2) (n := 12) (Nat.le_of_ble_eq_true rfl) (Nat.le_of_ble_eq_true rfl) ?_
  exact g_iret X (aBS_2, aOUT_5) h hP hD hS dL_pushes_22
