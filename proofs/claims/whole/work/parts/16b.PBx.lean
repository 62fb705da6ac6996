abbrev rm_PB_move : Room := { frames := 8, cells := 1, slots := 6, locals := 173 }
set_option maxHeartbeats 4000000 in
set_option maxRecDepth 100000 in
theorem s_PB_move_29 {p : Program} {l : Launch} {e : Env} {s : State} {m : MethodId} {args : Array Value} {below : List Frame} {meth : Method} {c : Code} {G : gEnv} {A : Nat → Prop} {hPB : Nat} {hTX : Nat} {hPI : Nat} {hBO : Nat} {hBS : Nat} {hLO : Nat} {hMA : Nat} {hMT : Nat} {hSE : Nat} {pb_textLength : Int32} {bo_width : Int32} {bo_height : Int32} {bo_goals : Int64} {bo_live : Int64} {bo_liveBesideInRow : Int64} {bo_liveBesideInColumn : Int64} {bo_floor : Int64} {post : Int32 → Int64 → Int64 → Int32 → Int32 → Int32 → Int32 → (Nat → Int32) → Prop} {px : Int32 → Int64 → Int64 → Int32 → Int32 → Int32 → Int32 → (Nat → Int32) → Prop} (X : gX p m meth c cX5_move 2 RX5 (some .int) s args G A) (hET : ∀ x ∈ c.exceptionTable.toList, False) (hl0 : l.stackTraces = false)  : ∀ (bo_boxes : Int64) (bo_person : Int64) (lo_kept : Int32) (lo_moves : Int32) (lo_pushed : Int32) (lo_end : Int32) (aMA : (Nat → Int32)) (H : Heap) (locs : List Loc) (ls : Array Slot), PB_move_29 bo_floor post px bo_boxes bo_person lo_kept lo_moves lo_pushed lo_end aMA → va_P G.1 gCl [cPB hPB hTX pb_textLength hPI hBO hLO hMT hSE, cBO hBO bo_width bo_height bo_floor bo_goals bo_live bo_boxes bo_person hBS bo_liveBesideInRow bo_liveBesideInColumn, cLO hLO lo_kept lo_moves lo_pushed hMA lo_end, cI G hMA 500 aMA] H → va_D A [cPB hPB hTX pb_textLength hPI hBO hLO hMT hSE, cBO hBO bo_width bo_height bo_floor bo_goals bo_live bo_boxes bo_person hBS bo_liveBesideInRow bo_liveBesideInColumn, cLO hLO lo_kept lo_moves lo_pushed hMA lo_end, cI G hMA 500 aMA] → va_S A s.heap H locs → lv_has ls 2 [(0, .ref hPB)] → W p l e rm_PB_move s m args below meth c H locs 0 0 (vx_MQ below (gQi G (fun (r : Int32) (u : Int64 × Int64 × Int32 × Int32 × Int32 × Int32 × (Nat → Int32)) => post r u.1 u.2.1 u.2.2.1 u.2.2.2.1 u.2.2.2.2.1 u.2.2.2.2.2.1 u.2.2.2.2.2.2) (fun (u : Int64 × Int64 × Int32 × Int32 × Int32 × Int32 × (Nat → Int32)) => [cPB hPB hTX pb_textLength hPI hBO hLO hMT hSE, cBO hBO bo_width bo_height bo_floor bo_goals bo_live u.1 u.2.1 hBS bo_liveBesideInRow bo_liveBesideInColumn, cLO hLO u.2.2.1 u.2.2.2.1 u.2.2.2.2.1 hMA u.2.2.2.2.2.1, cI G hMA 500 u.2.2.2.2.2.2]) A) (gXC G (fun (k : Int32) (u : Int64 × Int64 × Int32 × Int32 × Int32 × Int32 × (Nat → Int32)) => px k u.1 u.2.1 u.2.2.1 u.2.2.2.1 u.2.2.2.2.1 u.2.2.2.2.2.1 u.2.2.2.2.2.2) (fun (u : Int64 × Int64 × Int32 × Int32 × Int32 × Int32 × (Nat → Int32)) => [cPB hPB hTX pb_textLength hPI hBO hLO hMT hSE, cBO hBO bo_width bo_height bo_floor bo_goals bo_live u.1 u.2.1 hBS bo_liveBesideInRow bo_liveBesideInColumn, cLO hLO u.2.2.1 u.2.2.2.1 u.2.2.2.2.1 hMA u.2.2.2.2.2.1, cI G hMA 500 u.2.2.2.2.2.2]) A) args s 1 6 A) (F0 m 29 ls []) := by
  intro bo_boxes bo_person lo_kept lo_moves lo_pushed lo_end aMA H locs ls h hP hD hS hl
  unfold PB_move_29 at h
  exact vx_throwS X.1 X.2.1 hl0 (names := gNmI) X.2.2.2.1 (by decide +kernel) (by decide +kernel) (X.2.2.2.2.1 _ cl_I) (X.2.2.2.2.1 _ wi_I) (X.k.2.2.1 2 _ rfl) (g_hat X at_I1 at_I2) at_I3 (X.k.2.2.2.1.2.2.2.1.narrow X.new) (X.k.2.2.2.1.2.2.2.2.1.narrow X.new) hS (hl.1.trans X.2.2.1.symm) dX5_move_29 dX5_move_32 dX5_move_33 dX5_move_35 dX5_move_38 (fun x hx => (hET x hx).elim) (Nat.le_of_ble_eq_true rfl) (Nat.le_of_ble_eq_true rfl) (Nat.le_of_ble_eq_true rfl) (Nat.le_of_ble_eq_true rfl) X.lk (g_xc (w1 := (fun (u : Int64 × Int64 × Int32 × Int32 × Int32 × Int32 × (Nat → Int32)) => [cPB hPB hTX pb_textLength hPI hBO hLO hMT hSE, cBO hBO bo_width bo_height bo_floor bo_goals bo_live u.1 u.2.1 hBS bo_liveBesideInRow bo_liveBesideInColumn, cLO hLO u.2.2.1 u.2.2.2.1 u.2.2.2.2.1 hMA u.2.2.2.2.2.1, cI G hMA 500 u.2.2.2.2.2.2])) (px := (fun (k : Int32) (u : Int64 × Int64 × Int32 × Int32 × Int32 × Int32 × (Nat → Int32)) => px k u.1 u.2.1 u.2.2.1 u.2.2.2.1 u.2.2.2.2.1 u.2.2.2.2.2.1 u.2.2.2.2.2.2)) (1 : Int32) rfl (bo_boxes, bo_person, lo_kept, lo_moves, lo_pushed, lo_end, aMA) h hP hD hS) hS.2.2 (Nat.le_of_ble_eq_true rfl) (Nat.le_of_ble_eq_true rfl)
set_option maxHeartbeats 4000000 in
set_option maxRecDepth 100000 in
theorem c_PB_move (l : Launch) (G : gEnv) (hPB : Nat) (hTX : Nat) (hPI : Nat) (hBO : Nat) (hBS : Nat) (hLO : Nat) (hMA : Nat) (hMT : Nat) (hSE : Nat) (pb_textLength : Int32) (bo_width : Int32) (bo_height : Int32) (bo_floor : Int64) (bo_goals : Int64) (bo_live : Int64) (bo_boxes : Int64) (bo_person : Int64) (bo_liveBesideInRow : Int64) (bo_liveBesideInColumn : Int64) (lo_kept : Int32) (lo_moves : Int32) (lo_pushed : Int32) (lo_end : Int32) (aMA : Nat → Int32) (v1 : Int32) (post : Int32 → Int64 → Int64 → Int32 → Int32 → Int32 → Int32 → (Nat → Int32) → Prop) (px : Int32 → Int64 → Int64 → Int32 → Int32 → Int32 → Int32 → (Nat → Int32) → Prop) (h : PB_move bo_floor bo_boxes bo_person lo_kept lo_moves lo_pushed lo_end aMA v1 post px) (hl0 : l.stackTraces = false) (sz : Nat) : vx_Met l yX5_move (Cond.code yX5_move cX5_move 2 (some .int) :: wAll) (rm_PB_move) (gPc G [.ref hPB, .int v1] [cPB hPB hTX pb_textLength hPI hBO hLO hMT hSE, cBO hBO bo_width bo_height bo_floor bo_goals bo_live bo_boxes bo_person hBS bo_liveBesideInRow bo_liveBesideInColumn, cLO hLO lo_kept lo_moves lo_pushed hMA lo_end, cI G hMA 500 aMA] sz) (gQi G (fun (r : Int32) (u : Int64 × Int64 × Int32 × Int32 × Int32 × Int32 × (Nat → Int32)) => post r u.1 u.2.1 u.2.2.1 u.2.2.2.1 u.2.2.2.2.1 u.2.2.2.2.2.1 u.2.2.2.2.2.2) (fun (u : Int64 × Int64 × Int32 × Int32 × Int32 × Int32 × (Nat → Int32)) => [cPB hPB hTX pb_textLength hPI hBO hLO hMT hSE, cBO hBO bo_width bo_height bo_floor bo_goals bo_live u.1 u.2.1 hBS bo_liveBesideInRow bo_liveBesideInColumn, cLO hLO u.2.2.1 u.2.2.2.1 u.2.2.2.2.1 hMA u.2.2.2.2.2.1, cI G hMA 500 u.2.2.2.2.2.2]) (va_A [cPB hPB hTX pb_textLength hPI hBO hLO hMT hSE, cBO hBO bo_width bo_height bo_floor bo_goals bo_live bo_boxes bo_person hBS bo_liveBesideInRow bo_liveBesideInColumn, cLO hLO lo_kept lo_moves lo_pushed hMA lo_end, cI G hMA 500 aMA] sz)) (gXC G (fun (k : Int32) (u : Int64 × Int64 × Int32 × Int32 × Int32 × Int32 × (Nat → Int32)) => px k u.1 u.2.1 u.2.2.1 u.2.2.2.1 u.2.2.2.2.1 u.2.2.2.2.2.1 u.2.2.2.2.2.2) (fun (u : Int64 × Int64 × Int32 × Int32 × Int32 × Int32 × (Nat → Int32)) => [cPB hPB hTX pb_textLength hPI hBO hLO hMT hSE, cBO hBO bo_width bo_height bo_floor bo_goals bo_live u.1 u.2.1 hBS bo_liveBesideInRow bo_liveBesideInColumn, cLO hLO u.2.2.1 u.2.2.2.1 u.2.2.2.2.1 hMA u.2.2.2.2.2.1, cI G hMA 500 u.2.2.2.2.2.2]) (va_A [cPB hPB hTX pb_textLength hPI hBO hLO hMT hSE, cBO hBO bo_width bo_height bo_floor bo_goals bo_live bo_boxes bo_person hBS bo_liveBesideInRow bo_liveBesideInColumn, cLO hLO lo_kept lo_moves lo_pushed hMA lo_end, cI G hMA 500 aMA] sz)) 1 6 (va_A [cPB hPB hTX pb_textLength hPI hBO hLO hMT hSE, cBO hBO bo_width bo_height bo_floor bo_goals bo_live bo_boxes bo_person hBS bo_liveBesideInRow bo_liveBesideInColumn, cLO hLO lo_kept lo_moves lo_pushed hMA lo_end, cI G hMA 500 aMA] sz) := by
  refine vx_ofW (cc := cX5_move) (maxL := 2) (ret := (some .int)) (by decide) rfl ?_
  intro p e s m args below meth c s₁ B hml hET hv
  obtain ⟨rfl, hsz, hP, hK, hD0⟩ := hv
  subst hsz
  have X := gX.ofB (ws := [cPB hPB hTX pb_textLength hPI hBO hLO hMT hSE, cBO hBO bo_width bo_height bo_floor bo_goals bo_live bo_boxes bo_person hBS bo_liveBesideInRow bo_liveBesideInColumn, cLO hLO lo_kept lo_moves lo_pushed hMA lo_end, cI G hMA 500 aMA]) B hml hK hD0
  have hD := hD0.self (sz := s.heap.size)
  generalize hAe : va_A [cPB hPB hTX pb_textLength hPI hBO hLO hMT hSE, cBO hBO bo_width bo_height bo_floor bo_goals bo_live bo_boxes bo_person hBS bo_liveBesideInRow bo_liveBesideInColumn, cLO hLO lo_kept lo_moves lo_pushed hMA lo_end, cI G hMA 500 aMA] s.heap.size = A at X hD ⊢
  have hS : va_S A s.heap s.heap [] := va_S.rf
  have hl := lv_entry ([.ref hPB, .int v1]) (n := 2) (Nat.le_of_ble_eq_true rfl)
  rw [lg_entry_eq]
  generalize (lg_sl ([.ref hPB, .int v1]) ++ List.replicate (2 - (lg_sl ([.ref hPB, .int v1])).length) Slot.unset).toArray = ls at hl ⊢
  have hl : lv_has ls 2 [(0, .ref hPB), (1, .int v1)] := hl
  dsimp only [headSpec]
  unfold PB_move at h
  refine lv_aload_n X.1 X.2.1 dX5_move_0 rfl (lv_at hl 0 rfl) ?_
  refine g_get X hP 0 5 3 (v := .ref hBO) rfl rfl inX5 (by decide) fl_X5_23 rfl dX5_move_1 ?_
  refine g_ci (wr := [cPB hPB hTX pb_textLength hPI hBO hLO hMT hSE, cLO hLO lo_kept lo_moves lo_pushed hMA lo_end, cI G hMA 500 aMA]) X [1] [0, 2, 3] (g_rV (As := []) (rest := []) X (c_BO_isThere l G hBO hBS bo_width bo_height bo_floor bo_goals bo_live bo_boxes bo_person bo_liveBesideInRow bo_liveBesideInColumn _ h _) lk_X5_95 rfl rfl ⟨Nat.le_of_ble_eq_true rfl, Nat.le_of_ble_eq_true rfl⟩ hP hD hS [1] rfl rfl 1 0 rfl rfl rfl hl.1 rfl (Nat.le_of_ble_eq_true rfl) dX5_move_4 ⟨Nat.le_of_ble_eq_true rfl, Nat.le_of_ble_eq_true rfl⟩) hP hD hS rfl rfl rfl (by decide) (fun r_1 u H locs h hP hD hS => ?_)
  try dsimp only at h
  replace hP := hP.sub (ws' := [cPB hPB hTX pb_textLength hPI hBO hLO hMT hSE, cBO hBO bo_width bo_height bo_floor bo_goals bo_live bo_boxes bo_person hBS bo_liveBesideInRow bo_liveBesideInColumn, cLO hLO lo_kept lo_moves lo_pushed hMA lo_end, cI G hMA 500 aMA]) [0, 3, 1, 2] rfl
  replace hD := hD.sub (ws' := [cPB hPB hTX pb_textLength hPI hBO hLO hMT hSE, cBO hBO bo_width bo_height bo_floor bo_goals bo_live bo_boxes bo_person hBS bo_liveBesideInRow bo_liveBesideInColumn, cLO hLO lo_kept lo_moves lo_pushed hMA lo_end, cI G hMA 500 aMA]) [0, 3, 1, 2] rfl rfl
  refine lv_if_ne (tgt := 20) X.1 X.2.1 dX5_move_7 (by decide) (fun hc => ?_) (fun hc => ?_)
  · replace h := Eq.mp (if_neg hc) h
    refine lv_iload_n X.1 X.2.1 dX5_move_20 rfl (lv_at hl 1 rfl) ?_
    refine lv_if_lt (tgt := 29) X.1 X.2.1 dX5_move_21 (by decide) (fun hc => ?_) (fun hc => ?_)
    · replace h := Eq.mp (if_pos hc) h
      exact s_PB_move_29 X hET hl0  bo_boxes bo_person lo_kept lo_moves lo_pushed lo_end aMA _ _ _ h hP hD hS (lv_sub hl [0] rfl)
    · replace h := Eq.mp (if_neg hc) h
      refine lv_iload_n X.1 X.2.1 dX5_move_24 rfl (lv_at hl 1 rfl) ?_
      refine lv_iconst (v := (4 : Int32)) X.1 X.2.1 dX5_move_25 (by decide) ?_
      refine lv_icmp_lt (tgt := 39) X.1 X.2.1 dX5_move_26 (by decide) (fun hc => ?_) (fun hc => ?_)
      · replace h := Eq.mp (if_pos hc) h
        refine lv_aload_n X.1 X.2.1 dX5_move_39 rfl (lv_at hl 0 rfl) ?_
        refine lv_iload_n X.1 X.2.1 dX5_move_40 rfl (lv_at hl 1 rfl) ?_
        refine g_ci (wr := []) X [0, 1, 2, 3] [] (g_rV (As := [.int v1]) (rest := []) X (c_PB_goOnce l G hPB hTX hPI hBO hBS hLO hMA hMT hSE pb_textLength bo_width bo_height bo_floor bo_goals bo_live bo_boxes bo_person bo_liveBesideInRow bo_liveBesideInColumn lo_kept lo_moves lo_pushed lo_end aMA v1 _ h _) lk_X5_110 rfl rfl ⟨Nat.le_of_ble_eq_true rfl, Nat.le_of_ble_eq_true rfl⟩ hP hD hS [0, 1, 2, 3] rfl rfl 0 5 rfl rfl rfl hl.1 rfl (Nat.le_of_ble_eq_true rfl) dX5_move_41 ⟨Nat.le_of_ble_eq_true rfl, Nat.le_of_ble_eq_true rfl⟩) hP hD hS rfl rfl rfl (by decide) (fun r_2 u H locs h hP hD hS => ?_)
        obtain ⟨bo_boxes_3, bo_person_4, lo_kept_5, lo_moves_6, lo_pushed_7, lo_end_8, aMA_9⟩ := u
        try dsimp only at h
        replace hP := hP.sub (ws' := [cPB hPB hTX pb_textLength hPI hBO hLO hMT hSE, cBO hBO bo_width bo_height bo_floor bo_goals bo_live bo_boxes_3 bo_person_4 hBS bo_liveBesideInRow bo_liveBesideInColumn, cLO hLO lo_kept_5 lo_moves_6 lo_pushed_7 hMA lo_end_8, cI G hMA 500 aMA_9]) [0, 1, 2, 3] rfl
        replace hD := hD.sub (ws' := [cPB hPB hTX pb_textLength hPI hBO hLO hMT hSE, cBO hBO bo_width bo_height bo_floor bo_goals bo_live bo_boxes_3 bo_person_4 hBS bo_liveBesideInRow bo_liveBesideInColumn, cLO hLO lo_kept_5 lo_moves_6 lo_pushed_7 hMA lo_end_8, cI G hMA 500 aMA_9]) [0, 1, 2, 3] rfl rfl
        refine W.widen (k := 1) (n := 6) (Nat.le_of_ble_eq_true rfl) (Nat.le_of_ble_eq_true rfl) ?_
        exact vx_ret (g_iret X (bo_boxes_3, bo_person_4, lo_kept_5, lo_moves_6, lo_pushed_7, lo_end_8, aMA_9) h hP hD hS dX5_move_44)
      · replace h := Eq.mp (if_neg hc) h
        exact s_PB_move_29 X hET hl0  bo_boxes bo_person lo_kept lo_moves lo_pushed lo_end aMA _ _ _ h hP hD hS (lv_sub hl [0] rfl)
  · replace h := Eq.mp (if_pos hc) h
    exact vx_throwS X.1 X.2.1 hl0 (names := gNmS) X.2.2.2.1 (by decide +kernel) (by decide +kernel) (X.2.2.2.2.1 _ cl_S) (X.2.2.2.2.1 _ wi_S) (X.k.2.2.1 1 _ rfl) (g_hat X at_S1 at_S2) at_S3 (X.k.2.2.2.1.2.2.2.1.narrow X.new) (X.k.2.2.2.1.2.2.2.2.1.narrow X.new) hS (hl.1.trans X.2.2.1.symm) dX5_move_10 dX5_move_13 dX5_move_14 dX5_move_16 dX5_move_19 (fun x hx => (hET x hx).elim) (Nat.le_of_ble_eq_true rfl) (Nat.le_of_ble_eq_true rfl) (Nat.le_of_ble_eq_true rfl) (Nat.le_of_ble_eq_true rfl) X.lk (g_xc (w1 := (fun (u : Int64 × Int64 × Int32 × Int32 × Int32 × Int32 × (Nat → Int32)) => [cPB hPB hTX pb_textLength hPI hBO hLO hMT hSE, cBO hBO bo_width bo_height bo_floor bo_goals bo_live u.1 u.2.1 hBS bo_liveBesideInRow bo_liveBesideInColumn, cLO hLO u.2.2.1 u.2.2.2.1 u.2.2.2.2.1 hMA u.2.2.2.2.2.1, cI G hMA 500 u.2.2.2.2.2.2])) (px := (fun (k : Int32) (u : Int64 × Int64 × Int32 × Int32 × Int32 × Int32 × (Nat → Int32)) => px k u.1 u.2.1 u.2.2.1 u.2.2.2.1 u.2.2.2.2.1 u.2.2.2.2.2.1 u.2.2.2.2.2.2)) (2 : Int32) rfl (bo_boxes, bo_person, lo_kept, lo_moves, lo_pushed, lo_end, aMA) h hP hD hS) hS.2.2 (Nat.le_of_ble_eq_true rfl) (Nat.le_of_ble_eq_true rfl)
abbrev rm_PB_existing : Room := { frames := 8, cells := 1, slots := 6, locals := 173 }
set_option maxHeartbeats 4000000 in
set_option maxRecDepth 100000 in
theorem s_PB_existing_30 {p : Program} {l : Launch} {e : Env} {s : State} {m : MethodId} {args : Array Value} {below : List Frame} {meth : Method} {c : Code} {G : gEnv} {A : Nat → Prop} {hPB : Nat} {hTX : Nat} {hPI : Nat} {hBO : Nat} {hBS : Nat} {hLO : Nat} {hMT : Nat} {hSE : Nat} {pb_textLength : Int32} {bo_floor : Int64} {bo_goals : Int64} {bo_live : Int64} {bo_boxes : Int64} {bo_person : Int64} {bo_liveBesideInRow : Int64} {bo_liveBesideInColumn : Int64} {bo_width : Int32} {bo_height : Int32} {post : Int64 → Prop} {px : Int32 → Prop} (X : gX p m meth c cX5_existing 3 RX5 (some .long) s args G A) (hET : ∀ x ∈ c.exceptionTable.toList, False) (hl0 : l.stackTraces = false)  : ∀ (H : Heap) (locs : List Loc) (ls : Array Slot), PB_existing_30 bo_width bo_height post px  → va_P G.1 gCl [cPB hPB hTX pb_textLength hPI hBO hLO hMT hSE, cBO hBO bo_width bo_height bo_floor bo_goals bo_live bo_boxes bo_person hBS bo_liveBesideInRow bo_liveBesideInColumn] H → va_D A [cPB hPB hTX pb_textLength hPI hBO hLO hMT hSE, cBO hBO bo_width bo_height bo_floor bo_goals bo_live bo_boxes bo_person hBS bo_liveBesideInRow bo_liveBesideInColumn] → va_S A s.heap H locs → lv_has ls 3 [(0, .ref hPB)] → W p l e rm_PB_existing s m args below meth c H locs 0 0 (vx_MQ below (gQl G (fun (r : Int64) (u : Unit) => post r ) (fun (u : Unit) => [cPB hPB hTX pb_textLength hPI hBO hLO hMT hSE, cBO hBO bo_width bo_height bo_floor bo_goals bo_live bo_boxes bo_person hBS bo_liveBesideInRow bo_liveBesideInColumn]) A) (gXC G (fun (k : Int32) (u : Unit) => px k ) (fun (u : Unit) => [cPB hPB hTX pb_textLength hPI hBO hLO hMT hSE, cBO hBO bo_width bo_height bo_floor bo_goals bo_live bo_boxes bo_person hBS bo_liveBesideInRow bo_liveBesideInColumn]) A) args s 1 6 A) (F0 m 30 ls []) := by
  intro  H locs ls h hP hD hS hl
  unfold PB_existing_30 at h
  exact vx_throwS X.1 X.2.1 hl0 (names := gNmI) X.2.2.2.1 (by decide +kernel) (by decide +kernel) (X.2.2.2.2.1 _ cl_I) (X.2.2.2.2.1 _ wi_I) (X.k.2.2.1 3 _ rfl) (g_hat X at_I1 at_I2) at_I3 (X.k.2.2.2.1.2.2.2.1.narrow X.new) (X.k.2.2.2.1.2.2.2.2.1.narrow X.new) hS (hl.1.trans X.2.2.1.symm) dX5_existing_30 dX5_existing_33 dX5_existing_34 dX5_existing_36 dX5_existing_39 (fun x hx => (hET x hx).elim) (Nat.le_of_ble_eq_true rfl) (Nat.le_of_ble_eq_true rfl) (Nat.le_of_ble_eq_true rfl) (Nat.le_of_ble_eq_true rfl) X.lk (g_xc (w1 := (fun (u : Unit) => [cPB hPB hTX pb_textLength hPI hBO hLO hMT hSE, cBO hBO bo_width bo_height bo_floor bo_goals bo_live bo_boxes bo_person hBS bo_liveBesideInRow bo_liveBesideInColumn])) (px := (fun (k : Int32) (u : Unit) => px k )) (1 : Int32) rfl () h hP hD hS) hS.2.2 (Nat.le_of_ble_eq_true rfl) (Nat.le_of_ble_eq_true rfl)
set_option maxHeartbeats 4000000 in
set_option maxRecDepth 100000 in
theorem c_PB_existing (l : Launch) (G : gEnv) (hPB : Nat) (hTX : Nat) (hPI : Nat) (hBO : Nat) (hBS : Nat) (hLO : Nat) (hMT : Nat) (hSE : Nat) (pb_textLength : Int32) (bo_width : Int32) (bo_height : Int32) (bo_floor : Int64) (bo_goals : Int64) (bo_live : Int64) (bo_boxes : Int64) (bo_person : Int64) (bo_liveBesideInRow : Int64) (bo_liveBesideInColumn : Int64) (v1 : Int32) (v2 : Int32) (post : Int64 → Prop) (px : Int32 → Prop) (h : PB_existing bo_width bo_height v1 v2 post px) (hl0 : l.stackTraces = false) (sz : Nat) : vx_Met l yX5_existing (Cond.code yX5_existing cX5_existing 3 (some .long) :: wAll) (rm_PB_existing) (gPc G [.ref hPB, .int v1, .int v2] [cPB hPB hTX pb_textLength hPI hBO hLO hMT hSE, cBO hBO bo_width bo_height bo_floor bo_goals bo_live bo_boxes bo_person hBS bo_liveBesideInRow bo_liveBesideInColumn] sz) (gQl G (fun (r : Int64) (u : Unit) => post r ) (fun (u : Unit) => [cPB hPB hTX pb_textLength hPI hBO hLO hMT hSE, cBO hBO bo_width bo_height bo_floor bo_goals bo_live bo_boxes bo_person hBS bo_liveBesideInRow bo_liveBesideInColumn]) (va_A [cPB hPB hTX pb_textLength hPI hBO hLO hMT hSE, cBO hBO bo_width bo_height bo_floor bo_goals bo_live bo_boxes bo_person hBS bo_liveBesideInRow bo_liveBesideInColumn] sz)) (gXC G (fun (k : Int32) (u : Unit) => px k ) (fun (u : Unit) => [cPB hPB hTX pb_textLength hPI hBO hLO hMT hSE, cBO hBO bo_width bo_height bo_floor bo_goals bo_live bo_boxes bo_person hBS bo_liveBesideInRow bo_liveBesideInColumn]) (va_A [cPB hPB hTX pb_textLength hPI hBO hLO hMT hSE, cBO hBO bo_width bo_height bo_floor bo_goals bo_live bo_boxes bo_person hBS bo_liveBesideInRow bo_liveBesideInColumn] sz)) 1 6 (va_A [cPB hPB hTX pb_textLength hPI hBO hLO hMT hSE, cBO hBO bo_width bo_height bo_floor bo_goals bo_live bo_boxes bo_person hBS bo_liveBesideInRow bo_liveBesideInColumn] sz) := by
  refine vx_ofW (cc := cX5_existing) (maxL := 3) (ret := (some .long)) (by decide) rfl ?_
  intro p e s m args below meth c s₁ B hml hET hv
  obtain ⟨rfl, hsz, hP, hK, hD0⟩ := hv
  subst hsz
  have X := gX.ofB (ws := [cPB hPB hTX pb_textLength hPI hBO hLO hMT hSE, cBO hBO bo_width bo_height bo_floor bo_goals bo_live bo_boxes bo_person hBS bo_liveBesideInRow bo_liveBesideInColumn]) B hml hK hD0
  have hD := hD0.self (sz := s.heap.size)
  generalize hAe : va_A [cPB hPB hTX pb_textLength hPI hBO hLO hMT hSE, cBO hBO bo_width bo_height bo_floor bo_goals bo_live bo_boxes bo_person hBS bo_liveBesideInRow bo_liveBesideInColumn] s.heap.size = A at X hD ⊢
  have hS : va_S A s.heap s.heap [] := va_S.rf
  have hl := lv_entry ([.ref hPB, .int v1, .int v2]) (n := 3) (Nat.le_of_ble_eq_true rfl)
  rw [lg_entry_eq]
  generalize (lg_sl ([.ref hPB, .int v1, .int v2]) ++ List.replicate (3 - (lg_sl ([.ref hPB, .int v1, .int v2])).length) Slot.unset).toArray = ls at hl ⊢
  have hl : lv_has ls 3 [(0, .ref hPB), (1, .int v1), (2, .int v2)] := hl
  dsimp only [headSpec]
  unfold PB_existing at h
  refine lv_iload_n X.1 X.2.1 dX5_existing_0 rfl (lv_at hl 1 rfl) ?_
  refine lv_if_lt (tgt := 30) X.1 X.2.1 dX5_existing_1 (by decide) (fun hc => ?_) (fun hc => ?_)
  · replace h := Eq.mp (if_pos hc) h
    exact s_PB_existing_30 X hET hl0   _ _ _ h hP hD hS (lv_sub hl [0] rfl)
  · replace h := Eq.mp (if_neg hc) h
    refine lv_iload_n X.1 X.2.1 dX5_existing_4 rfl (lv_at hl 1 rfl) ?_
    refine lv_aload_n X.1 X.2.1 dX5_existing_5 rfl (lv_at hl 0 rfl) ?_
    refine g_get X hP 0 5 3 (v := .ref hBO) rfl rfl inX5 (by decide) fl_X5_23 rfl dX5_existing_6 ?_
    refine g_get X hP 1 0 0 (v := .int bo_width) rfl rfl inX0 (by decide) fl_X5_129 rfl dX5_existing_9 ?_
    refine lv_icmp_ge (tgt := 30) X.1 X.2.1 dX5_existing_12 (by decide) (fun hc => ?_) (fun hc => ?_)
    · replace h := Eq.mp (if_pos hc) h
      exact s_PB_existing_30 X hET hl0   _ _ _ h hP hD hS (lv_sub hl [0] rfl)
    · replace h := Eq.mp (if_neg hc) h
      refine lv_iload_n X.1 X.2.1 dX5_existing_15 rfl (lv_at hl 2 rfl) ?_
      refine lv_if_lt (tgt := 30) X.1 X.2.1 dX5_existing_16 (by decide) (fun hc => ?_) (fun hc => ?_)
      · replace h := Eq.mp (if_pos hc) h
        exact s_PB_existing_30 X hET hl0   _ _ _ h hP hD hS (lv_sub hl [0] rfl)
      · replace h := Eq.mp (if_neg hc) h
        refine lv_iload_n X.1 X.2.1 dX5_existing_19 rfl (lv_at hl 2 rfl) ?_
        refine lv_aload_n X.1 X.2.1 dX5_existing_20 rfl (lv_at hl 0 rfl) ?_
        refine g_get X hP 0 5 3 (v := .ref hBO) rfl rfl inX5 (by decide) fl_X5_23 rfl dX5_existing_21 ?_
        refine g_get X hP 1 0 1 (v := .int bo_height) rfl rfl inX0 (by decide) fl_X5_132 rfl dX5_existing_24 ?_
        refine lv_icmp_lt (tgt := 40) X.1 X.2.1 dX5_existing_27 (by decide) (fun hc => ?_) (fun hc => ?_)
        · replace h := Eq.mp (if_pos hc) h
          refine lv_iload_n X.1 X.2.1 dX5_existing_40 rfl (lv_at hl 1 rfl) ?_
          refine lv_iload_n X.1 X.2.1 dX5_existing_41 rfl (lv_at hl 2 rfl) ?_
          refine g_cl (wr := [cPB hPB hTX pb_textLength hPI hBO hLO hMT hSE, cBO hBO bo_width bo_height bo_floor bo_goals bo_live bo_boxes bo_person hBS bo_liveBesideInRow bo_liveBesideInColumn]) X [] [0, 1] (g_rS (As := [.int v1, .int v2]) (rest := []) X (c_PB_cellAt l G v1 v2 _ h _) lk_X5_154 rfl rfl ⟨Nat.le_of_ble_eq_true rfl, Nat.le_of_ble_eq_true rfl⟩ hP hD hS [] rfl rfl rfl hl.1 rfl (Nat.le_of_ble_eq_true rfl) dX5_existing_42 ⟨Nat.le_of_ble_eq_true rfl, Nat.le_of_ble_eq_true rfl⟩) hP hD hS rfl rfl rfl (by decide) (fun r_1 u H locs h hP hD hS => ?_)
          try dsimp only at h
          replace hP := hP.sub (ws' := [cPB hPB hTX pb_textLength hPI hBO hLO hMT hSE, cBO hBO bo_width bo_height bo_floor bo_goals bo_live bo_boxes bo_person hBS bo_liveBesideInRow bo_liveBesideInColumn]) [0, 1] rfl
          replace hD := hD.sub (ws' := [cPB hPB hTX pb_textLength hPI hBO hLO hMT hSE, cBO hBO bo_width bo_height bo_floor bo_goals bo_live bo_boxes bo_person hBS bo_liveBesideInRow bo_liveBesideInColumn]) [0, 1] rfl rfl
          refine W.widen (k := 1) (n := 6) (Nat.le_of_ble_eq_true rfl) (Nat.le_of_ble_eq_true rfl) ?_
          exact vx_ret (g_lret X () h hP hD hS dX5_existing_45)
        · replace h := Eq.mp (if_neg hc) h
          exact s_PB_existing_30 X hET hl0   _ _ _ h hP hD hS (lv_sub hl [0] rfl)
abbrev rm_PB_way : Room := { frames := 9, cells := 1, slots := 6, locals := 195 }
set_option maxHeartbeats 4000000 in
set_option maxRecDepth 100000 in
theorem c_PB_way (l : Launch) (G : gEnv) (hPB : Nat) (hTX : Nat) (hPI : Nat) (hBO : Nat) (hBS : Nat) (hLO : Nat) (hMT : Nat) (hSE : Nat) (pb_textLength : Int32) (bo_width : Int32) (bo_height : Int32) (bo_floor : Int64) (bo_goals : Int64) (bo_live : Int64) (bo_boxes : Int64) (bo_person : Int64) (bo_liveBesideInRow : Int64) (bo_liveBesideInColumn : Int64) (v1 : Int32) (v2 : Int32) (post : Int32 → Prop) (px : Int32 → Prop) (h : PB_way bo_width bo_height bo_floor bo_boxes bo_person v1 v2 post px) (hl0 : l.stackTraces = false) (sz : Nat) : vx_Met l yX5_way (Cond.code yX5_way cX5_way 3 (some .int) :: wAll) (rm_PB_way) (gPc G [.ref hPB, .int v1, .int v2] [cPB hPB hTX pb_textLength hPI hBO hLO hMT hSE, cBO hBO bo_width bo_height bo_floor bo_goals bo_live bo_boxes bo_person hBS bo_liveBesideInRow bo_liveBesideInColumn] sz) (gQi G (fun (r : Int32) (u : Unit) => post r ) (fun (u : Unit) => [cPB hPB hTX pb_textLength hPI hBO hLO hMT hSE, cBO hBO bo_width bo_height bo_floor bo_goals bo_live bo_boxes bo_person hBS bo_liveBesideInRow bo_liveBesideInColumn]) (va_A [cPB hPB hTX pb_textLength hPI hBO hLO hMT hSE, cBO hBO bo_width bo_height bo_floor bo_goals bo_live bo_boxes bo_person hBS bo_liveBesideInRow bo_liveBesideInColumn] sz)) (gXC G (fun (k : Int32) (u : Unit) => px k ) (fun (u : Unit) => [cPB hPB hTX pb_textLength hPI hBO hLO hMT hSE, cBO hBO bo_width bo_height bo_floor bo_goals bo_live bo_boxes bo_person hBS bo_liveBesideInRow bo_liveBesideInColumn]) (va_A [cPB hPB hTX pb_textLength hPI hBO hLO hMT hSE, cBO hBO bo_width bo_height bo_floor bo_goals bo_live bo_boxes bo_person hBS bo_liveBesideInRow bo_liveBesideInColumn] sz)) 1 6 (va_A [cPB hPB hTX pb_textLength hPI hBO hLO hMT hSE, cBO hBO bo_width bo_height bo_floor bo_goals bo_live bo_boxes bo_person hBS bo_liveBesideInRow bo_liveBesideInColumn] sz) := by
  refine vx_ofW (cc := cX5_way) (maxL := 3) (ret := (some .int)) (by decide) rfl ?_
  intro p e s m args below meth c s₁ B hml hET hv
  obtain ⟨rfl, hsz, hP, hK, hD0⟩ := hv
  subst hsz
  have X := gX.ofB (ws := [cPB hPB hTX pb_textLength hPI hBO hLO hMT hSE, cBO hBO bo_width bo_height bo_floor bo_goals bo_live bo_boxes bo_person hBS bo_liveBesideInRow bo_liveBesideInColumn]) B hml hK hD0
  have hD := hD0.self (sz := s.heap.size)
  generalize hAe : va_A [cPB hPB hTX pb_textLength hPI hBO hLO hMT hSE, cBO hBO bo_width bo_height bo_floor bo_goals bo_live bo_boxes bo_person hBS bo_liveBesideInRow bo_liveBesideInColumn] s.heap.size = A at X hD ⊢
  have hS : va_S A s.heap s.heap [] := va_S.rf
  have hl := lv_entry ([.ref hPB, .int v1, .int v2]) (n := 3) (Nat.le_of_ble_eq_true rfl)
  rw [lg_entry_eq]
  generalize (lg_sl ([.ref hPB, .int v1, .int v2]) ++ List.replicate (3 - (lg_sl ([.ref hPB, .int v1, .int v2])).length) Slot.unset).toArray = ls at hl ⊢
  have hl : lv_has ls 3 [(0, .ref hPB), (1, .int v1), (2, .int v2)] := hl
  dsimp only [headSpec]
  unfold PB_way at h
  refine lv_aload_n X.1 X.2.1 dX5_way_0 rfl (lv_at hl 0 rfl) ?_
  refine g_get X hP 0 5 3 (v := .ref hBO) rfl rfl inX5 (by decide) fl_X5_23 rfl dX5_way_1 ?_
  refine lv_aload_n X.1 X.2.1 dX5_way_4 rfl (lv_at hl 0 rfl) ?_
  refine lv_iload_n X.1 X.2.1 dX5_way_5 rfl (lv_at hl 1 rfl) ?_
  refine lv_iload_n X.1 X.2.1 dX5_way_6 rfl (lv_at hl 2 rfl) ?_
  refine g_xl (wr := []) X [0, 1] [] (g_rVx (As := [.int v1, .int v2]) (rest := [.ref hBO]) X (c_PB_existing l G hPB hTX hPI hBO hBS hLO hMT hSE pb_textLength bo_width bo_height bo_floor bo_goals bo_live bo_boxes bo_person bo_liveBesideInRow bo_liveBesideInColumn v1 v2 _ _ h hl0 _) lk_X5_168 rfl rfl ⟨Nat.le_of_ble_eq_true rfl, Nat.le_of_ble_eq_true rfl⟩ hP hD hS [0, 1] rfl rfl 0 5 rfl rfl rfl hl.1 rfl (Nat.le_of_ble_eq_true rfl) dX5_way_7 ⟨Nat.le_of_ble_eq_true rfl, Nat.le_of_ble_eq_true rfl⟩) hP hD hS rfl rfl rfl (by decide) (fun E ce q9 kd u H locs h hE hP hD hS h7 h8 h9 => g_pass (w1 := (fun (u : Unit) => [cPB hPB hTX pb_textLength hPI hBO hLO hMT hSE, cBO hBO bo_width bo_height bo_floor bo_goals bo_live bo_boxes bo_person hBS bo_liveBesideInRow bo_liveBesideInColumn])) (px := (fun (k : Int32) (u : Unit) => px k )) X hET kd hE () h (hP.sub (ws' := [cPB hPB hTX pb_textLength hPI hBO hLO hMT hSE, cBO hBO bo_width bo_height bo_floor bo_goals bo_live bo_boxes bo_person hBS bo_liveBesideInRow bo_liveBesideInColumn]) [0, 1] rfl) (hD.sub (ws' := [cPB hPB hTX pb_textLength hPI hBO hLO hMT hSE, cBO hBO bo_width bo_height bo_floor bo_goals bo_live bo_boxes bo_person hBS bo_liveBesideInRow bo_liveBesideInColumn]) [0, 1] rfl rfl) hS h7 h8 h9 (Nat.le_of_ble_eq_true rfl) (Nat.le_of_ble_eq_true rfl)) (fun r_1 u H locs h hP hD hS => ?_)
  try dsimp only at h
  replace hP := hP.sub (ws' := [cPB hPB hTX pb_textLength hPI hBO hLO hMT hSE, cBO hBO bo_width bo_height bo_floor bo_goals bo_live bo_boxes bo_person hBS bo_liveBesideInRow bo_liveBesideInColumn]) [0, 1] rfl
  replace hD := hD.sub (ws' := [cPB hPB hTX pb_textLength hPI hBO hLO hMT hSE, cBO hBO bo_width bo_height bo_floor bo_goals bo_live bo_boxes bo_person hBS bo_liveBesideInRow bo_liveBesideInColumn]) [0, 1] rfl rfl
  refine g_ci (wr := [cPB hPB hTX pb_textLength hPI hBO hLO hMT hSE]) X [1] [0] (g_rV (As := [.long r_1]) (rest := []) X (c_BO_stepsTo l G hBO hBS bo_width bo_height bo_floor bo_goals bo_live bo_boxes bo_person bo_liveBesideInRow bo_liveBesideInColumn r_1 _ h _) lk_X5_171 rfl rfl ⟨Nat.le_of_ble_eq_true rfl, Nat.le_of_ble_eq_true rfl⟩ hP hD hS [1] rfl rfl 1 0 rfl rfl rfl hl.1 rfl (Nat.le_of_ble_eq_true rfl) dX5_way_10 ⟨Nat.le_of_ble_eq_true rfl, Nat.le_of_ble_eq_true rfl⟩) hP hD hS rfl rfl rfl (by decide) (fun r_3 u H locs h hP hD hS => ?_)
  try dsimp only at h
  replace hP := hP.sub (ws' := [cPB hPB hTX pb_textLength hPI hBO hLO hMT hSE, cBO hBO bo_width bo_height bo_floor bo_goals bo_live bo_boxes bo_person hBS bo_liveBesideInRow bo_liveBesideInColumn]) [0, 1] rfl
  replace hD := hD.sub (ws' := [cPB hPB hTX pb_textLength hPI hBO hLO hMT hSE, cBO hBO bo_width bo_height bo_floor bo_goals bo_live bo_boxes bo_person hBS bo_liveBesideInRow bo_liveBesideInColumn]) [0, 1] rfl rfl
  refine W.widen (k := 1) (n := 6) (Nat.le_of_ble_eq_true rfl) (Nat.le_of_ble_eq_true rfl) ?_
  exact vx_ret (g_iret X () h hP hD hS dX5_way_13)
abbrev rm_PB_dead : Room := { frames := 9, cells := 1, slots := 6, locals := 195 }
set_option maxHeartbeats 4000000 in
set_option maxRecDepth 100000 in
theorem c_PB_dead (l : Launch) (G : gEnv) (hPB : Nat) (hTX : Nat) (hPI : Nat) (hBO : Nat) (hBS : Nat) (hLO : Nat) (hMT : Nat) (hSE : Nat) (pb_textLength : Int32) (bo_width : Int32) (bo_height : Int32) (bo_floor : Int64) (bo_goals : Int64) (bo_live : Int64) (bo_boxes : Int64) (bo_person : Int64) (bo_liveBesideInRow : Int64) (bo_liveBesideInColumn : Int64) (v1 : Int32) (v2 : Int32) (post : Int32 → Prop) (px : Int32 → Prop) (h : PB_dead bo_width bo_height bo_floor bo_live v1 v2 post px) (hl0 : l.stackTraces = false) (sz : Nat) : vx_Met l yX5_dead (Cond.code yX5_dead cX5_dead 3 (some .boolean) :: wAll) (rm_PB_dead) (gPc G [.ref hPB, .int v1, .int v2] [cPB hPB hTX pb_textLength hPI hBO hLO hMT hSE, cBO hBO bo_width bo_height bo_floor bo_goals bo_live bo_boxes bo_person hBS bo_liveBesideInRow bo_liveBesideInColumn] sz) (gQi G (fun (r : Int32) (u : Unit) => post r ) (fun (u : Unit) => [cPB hPB hTX pb_textLength hPI hBO hLO hMT hSE, cBO hBO bo_width bo_height bo_floor bo_goals bo_live bo_boxes bo_person hBS bo_liveBesideInRow bo_liveBesideInColumn]) (va_A [cPB hPB hTX pb_textLength hPI hBO hLO hMT hSE, cBO hBO bo_width bo_height bo_floor bo_goals bo_live bo_boxes bo_person hBS bo_liveBesideInRow bo_liveBesideInColumn] sz)) (gXC G (fun (k : Int32) (u : Unit) => px k ) (fun (u : Unit) => [cPB hPB hTX pb_textLength hPI hBO hLO hMT hSE, cBO hBO bo_width bo_height bo_floor bo_goals bo_live bo_boxes bo_person hBS bo_liveBesideInRow bo_liveBesideInColumn]) (va_A [cPB hPB hTX pb_textLength hPI hBO hLO hMT hSE, cBO hBO bo_width bo_height bo_floor bo_goals bo_live bo_boxes bo_person hBS bo_liveBesideInRow bo_liveBesideInColumn] sz)) 1 6 (va_A [cPB hPB hTX pb_textLength hPI hBO hLO hMT hSE, cBO hBO bo_width bo_height bo_floor bo_goals bo_live bo_boxes bo_person hBS bo_liveBesideInRow bo_liveBesideInColumn] sz) := by
  refine vx_ofW (cc := cX5_dead) (maxL := 3) (ret := (some .boolean)) (by decide) rfl ?_
  intro p e s m args below meth c s₁ B hml hET hv
  obtain ⟨rfl, hsz, hP, hK, hD0⟩ := hv
  subst hsz
  have X := gX.ofB (ws := [cPB hPB hTX pb_textLength hPI hBO hLO hMT hSE, cBO hBO bo_width bo_height bo_floor bo_goals bo_live bo_boxes bo_person hBS bo_liveBesideInRow bo_liveBesideInColumn]) B hml hK hD0
  have hD := hD0.self (sz := s.heap.size)
  generalize hAe : va_A [cPB hPB hTX pb_textLength hPI hBO hLO hMT hSE, cBO hBO bo_width bo_height bo_floor bo_goals bo_live bo_boxes bo_person hBS bo_liveBesideInRow bo_liveBesideInColumn] s.heap.size = A at X hD ⊢
  have hS : va_S A s.heap s.heap [] := va_S.rf
  have hl := lv_entry ([.ref hPB, .int v1, .int v2]) (n := 3) (Nat.le_of_ble_eq_true rfl)
  rw [lg_entry_eq]
  generalize (lg_sl ([.ref hPB, .int v1, .int v2]) ++ List.replicate (3 - (lg_sl ([.ref hPB, .int v1, .int v2])).length) Slot.unset).toArray = ls at hl ⊢
  have hl : lv_has ls 3 [(0, .ref hPB), (1, .int v1), (2, .int v2)] := hl
  dsimp only [headSpec]
  unfold PB_dead at h
  refine lv_aload_n X.1 X.2.1 dX5_dead_0 rfl (lv_at hl 0 rfl) ?_
  refine lv_iload_n X.1 X.2.1 dX5_dead_1 rfl (lv_at hl 1 rfl) ?_
  refine lv_iload_n X.1 X.2.1 dX5_dead_2 rfl (lv_at hl 2 rfl) ?_
  refine g_xl (wr := []) X [0, 1] [] (g_rVx (As := [.int v1, .int v2]) (rest := []) X (c_PB_existing l G hPB hTX hPI hBO hBS hLO hMT hSE pb_textLength bo_width bo_height bo_floor bo_goals bo_live bo_boxes bo_person bo_liveBesideInRow bo_liveBesideInColumn v1 v2 _ _ h hl0 _) lk_X5_168 rfl rfl ⟨Nat.le_of_ble_eq_true rfl, Nat.le_of_ble_eq_true rfl⟩ hP hD hS [0, 1] rfl rfl 0 5 rfl rfl rfl hl.1 rfl (Nat.le_of_ble_eq_true rfl) dX5_dead_3 ⟨Nat.le_of_ble_eq_true rfl, Nat.le_of_ble_eq_true rfl⟩) hP hD hS rfl rfl rfl (by decide) (fun E ce q9 kd u H locs h hE hP hD hS h7 h8 h9 => g_pass (w1 := (fun (u : Unit) => [cPB hPB hTX pb_textLength hPI hBO hLO hMT hSE, cBO hBO bo_width bo_height bo_floor bo_goals bo_live bo_boxes bo_person hBS bo_liveBesideInRow bo_liveBesideInColumn])) (px := (fun (k : Int32) (u : Unit) => px k )) X hET kd hE () h (hP.sub (ws' := [cPB hPB hTX pb_textLength hPI hBO hLO hMT hSE, cBO hBO bo_width bo_height bo_floor bo_goals bo_live bo_boxes bo_person hBS bo_liveBesideInRow bo_liveBesideInColumn]) [0, 1] rfl) (hD.sub (ws' := [cPB hPB hTX pb_textLength hPI hBO hLO hMT hSE, cBO hBO bo_width bo_height bo_floor bo_goals bo_live bo_boxes bo_person hBS bo_liveBesideInRow bo_liveBesideInColumn]) [0, 1] rfl rfl) hS h7 h8 h9 (Nat.le_of_ble_eq_true rfl) (Nat.le_of_ble_eq_true rfl)) (fun r_1 u H locs h hP hD hS => ?_)
  try dsimp only at h
  replace hP := hP.sub (ws' := [cPB hPB hTX pb_textLength hPI hBO hLO hMT hSE, cBO hBO bo_width bo_height bo_floor bo_goals bo_live bo_boxes bo_person hBS bo_liveBesideInRow bo_liveBesideInColumn]) [0, 1] rfl
  replace hD := hD.sub (ws' := [cPB hPB hTX pb_textLength hPI hBO hLO hMT hSE, cBO hBO bo_width bo_height bo_floor bo_goals bo_live bo_boxes bo_person hBS bo_liveBesideInRow bo_liveBesideInColumn]) [0, 1] rfl rfl
  refine lv_aload_n X.1 X.2.1 dX5_dead_6 rfl (lv_at hl 0 rfl) ?_
  refine g_get X hP 0 5 3 (v := .ref hBO) rfl rfl inX5 (by decide) fl_X5_23 rfl dX5_dead_7 ?_
  refine g_get X hP 1 0 2 (v := .long bo_floor) rfl rfl inX0 (by decide) fl_X5_174 rfl dX5_dead_10 ?_
  refine lv_land X.1 X.2.1 dX5_dead_13 ?_
  refine lv_aload_n X.1 X.2.1 dX5_dead_14 rfl (lv_at hl 0 rfl) ?_
  refine g_get X hP 0 5 3 (v := .ref hBO) rfl rfl inX5 (by decide) fl_X5_23 rfl dX5_dead_15 ?_
  refine g_get X hP 1 0 4 (v := .long bo_live) rfl rfl inX0 (by decide) fl_X5_177 rfl dX5_dead_18 ?_
  refine lv_ldc2 (v := (-1 : Int64)) X.1 X.2.1 X.2.2.2.1 (X.2.2.2.2.1 _ cn_X5_180) dX5_dead_21 ?_
  refine lv_lxor X.1 X.2.1 dX5_dead_24 ?_
  refine lv_land X.1 X.2.1 dX5_dead_25 ?_
  refine lv_lconst (v := (0 : Int64)) X.1 X.2.1 dX5_dead_26 (by decide) ?_
  refine g_lcmp_eq (tgt := 35) X dX5_dead_27 dX5_dead_28 (by decide) (fun hc => ?_) (fun hc => ?_)
  · replace h := Eq.mp (if_pos hc) h
    refine lv_iconst (v := (0 : Int32)) X.1 X.2.1 dX5_dead_35 (by decide) ?_
    refine W.widen (k := 1) (n := 6) (Nat.le_of_ble_eq_true rfl) (Nat.le_of_ble_eq_true rfl) ?_
    exact vx_ret (g_zret X (by decide) () h hP hD hS dX5_dead_36)
  · replace h := Eq.mp (if_neg hc) h
    refine lv_iconst (v := (1 : Int32)) X.1 X.2.1 dX5_dead_31 (by decide) ?_
    refine lv_goto (tgt := 36) X.1 X.2.1 dX5_dead_32 (by decide) ?_
    refine W.widen (k := 1) (n := 6) (Nat.le_of_ble_eq_true rfl) (Nat.le_of_ble_eq_true rfl) ?_
    exact vx_ret (g_zret X (by decide) () h hP hD hS dX5_dead_36)
abbrev rm_PB_pushes : Room := { frames := 9, cells := 2, slots := 12, locals := 195 }
set_option maxHeartbeats 4000000 in
set_option maxRecDepth 100000 in
theorem c_PB_pushes (l : Launch) (G : gEnv) (hPB : Nat) (hTX : Nat) (hPI : Nat) (hBO : Nat) (hBS : Nat) (hLO : Nat) (hMT : Nat) (hSE : Nat) (pb_textLength : Int32) (bo_width : Int32) (bo_height : Int32) (bo_floor : Int64) (bo_goals : Int64) (bo_live : Int64) (bo_boxes : Int64) (bo_person : Int64) (bo_liveBesideInRow : Int64) (bo_liveBesideInColumn : Int64) (aBS : Nat → Int32) (v1 : Int32) (v2 : Int32) (v3 : Int32) (v4 : Int32) (post : Int32 → (Nat → Int32) → Prop) (px : Int32 → (Nat → Int32) → Prop) (h : PB_pushes bo_width bo_height bo_floor aBS v1 v2 v3 v4 post px) (hl0 : l.stackTraces = false) (sz : Nat) : vx_Met l yX5_pushes (Cond.code yX5_pushes cX5_pushes 9 (some .int) :: wAll) (rm_PB_pushes) (gPc G [.ref hPB, .int v1, .int v2, .int v3, .int v4] [cPB hPB hTX pb_textLength hPI hBO hLO hMT hSE, cBO hBO bo_width bo_height bo_floor bo_goals bo_live bo_boxes bo_person hBS bo_liveBesideInRow bo_liveBesideInColumn, cI G hBS 64 aBS] sz) (gQi G (fun (r : Int32) (u : (Nat → Int32)) => post r u) (fun (u : (Nat → Int32)) => [cPB hPB hTX pb_textLength hPI hBO hLO hMT hSE, cBO hBO bo_width bo_height bo_floor bo_goals bo_live bo_boxes bo_person hBS bo_liveBesideInRow bo_liveBesideInColumn, cI G hBS 64 u]) (va_A [cPB hPB hTX pb_textLength hPI hBO hLO hMT hSE, cBO hBO bo_width bo_height bo_floor bo_goals bo_live bo_boxes bo_person hBS bo_liveBesideInRow bo_liveBesideInColumn, cI G hBS 64 aBS] sz)) (gXC G (fun (k : Int32) (u : (Nat → Int32)) => px k u) (fun (u : (Nat → Int32)) => [cPB hPB hTX pb_textLength hPI hBO hLO hMT hSE, cBO hBO bo_width bo_height bo_floor bo_goals bo_live bo_boxes bo_person hBS bo_liveBesideInRow bo_liveBesideInColumn, cI G hBS 64 u]) (va_A [cPB hPB hTX pb_textLength hPI hBO hLO hMT hSE, cBO hBO bo_width bo_height bo_floor bo_goals bo_live bo_boxes bo_person hBS bo_liveBesideInRow bo_liveBesideInColumn, cI G hBS 64 aBS] sz)) 2 12 (va_A [cPB hPB hTX pb_textLength hPI hBO hLO hMT hSE, cBO hBO bo_width bo_height bo_floor bo_goals bo_live bo_boxes bo_person hBS bo_liveBesideInRow bo_liveBesideInColumn, cI G hBS 64 aBS] sz) := by
  refine vx_ofW (cc := cX5_pushes) (maxL := 9) (ret := (some .int)) (by decide) rfl ?_
  intro p e s m args below meth c s₁ B hml hET hv
  obtain ⟨rfl, hsz, hP, hK, hD0⟩ := hv
  subst hsz
  have X := gX.ofB (ws := [cPB hPB hTX pb_textLength hPI hBO hLO hMT hSE, cBO hBO bo_width bo_height bo_floor bo_goals bo_live bo_boxes bo_person hBS bo_liveBesideInRow bo_liveBesideInColumn, cI G hBS 64 aBS]) B hml hK hD0
  have hD := hD0.self (sz := s.heap.size)
  generalize hAe : va_A [cPB hPB hTX pb_textLength hPI hBO hLO hMT hSE, cBO hBO bo_width bo_height bo_floor bo_goals bo_live bo_boxes bo_person hBS bo_liveBesideInRow bo_liveBesideInColumn, cI G hBS 64 aBS] s.heap.size = A at X hD ⊢
  have hS : va_S A s.heap s.heap [] := va_S.rf
  have hl := lv_entry ([.ref hPB, .int v1, .int v2, .int v3, .int v4]) (n := 9) (Nat.le_of_ble_eq_true rfl)
  rw [lg_entry_eq]
  generalize (lg_sl ([.ref hPB, .int v1, .int v2, .int v3, .int v4]) ++ List.replicate (9 - (lg_sl ([.ref hPB, .int v1, .int v2, .int v3, .int v4])).length) Slot.unset).toArray = ls at hl ⊢
  have hl : lv_has ls 9 [(0, .ref hPB), (1, .int v1), (2, .int v2), (3, .int v3), (4, .int v4)] := hl
  dsimp only [headSpec]
  unfold PB_pushes at h
  refine lv_aload_n X.1 X.2.1 dX5_pushes_0 rfl (lv_at hl 0 rfl) ?_
  refine lv_iload_n X.1 X.2.1 dX5_pushes_1 rfl (lv_at hl 1 rfl) ?_
  refine lv_iload_n X.1 X.2.1 dX5_pushes_2 rfl (lv_at hl 2 rfl) ?_
  refine g_xl (wr := [cI G hBS 64 aBS]) X [0, 1] [2] (g_rVx (As := [.int v1, .int v2]) (rest := []) X (c_PB_existing l G hPB hTX hPI hBO hBS hLO hMT hSE pb_textLength bo_width bo_height bo_floor bo_goals bo_live bo_boxes bo_person bo_liveBesideInRow bo_liveBesideInColumn v1 v2 _ _ h hl0 _) lk_X5_168 rfl rfl ⟨Nat.le_of_ble_eq_true rfl, Nat.le_of_ble_eq_true rfl⟩ hP hD hS [0, 1] rfl rfl 0 5 rfl rfl rfl hl.1 rfl (Nat.le_of_ble_eq_true rfl) dX5_pushes_3 ⟨Nat.le_of_ble_eq_true rfl, Nat.le_of_ble_eq_true rfl⟩) hP hD hS rfl rfl rfl (by decide) (fun E ce q9 kd u H locs h hE hP hD hS h7 h8 h9 => g_pass (w1 := (fun (u : (Nat → Int32)) => [cPB hPB hTX pb_textLength hPI hBO hLO hMT hSE, cBO hBO bo_width bo_height bo_floor bo_goals bo_live bo_boxes bo_person hBS bo_liveBesideInRow bo_liveBesideInColumn, cI G hBS 64 u])) (px := (fun (k : Int32) (u : (Nat → Int32)) => px k u)) X hET kd hE aBS h (hP.sub (ws' := [cPB hPB hTX pb_textLength hPI hBO hLO hMT hSE, cBO hBO bo_width bo_height bo_floor bo_goals bo_live bo_boxes bo_person hBS bo_liveBesideInRow bo_liveBesideInColumn, cI G hBS 64 aBS]) [1, 2, 0] rfl) (hD.sub (ws' := [cPB hPB hTX pb_textLength hPI hBO hLO hMT hSE, cBO hBO bo_width bo_height bo_floor bo_goals bo_live bo_boxes bo_person hBS bo_liveBesideInRow bo_liveBesideInColumn, cI G hBS 64 aBS]) [1, 2, 0] rfl rfl) hS h7 h8 h9 (Nat.le_of_ble_eq_true rfl) (Nat.le_of_ble_eq_true rfl)) (fun r_1 u H locs h hP hD hS => ?_)
  try dsimp only at h
  replace hP := hP.sub (ws' := [cPB hPB hTX pb_textLength hPI hBO hLO hMT hSE, cBO hBO bo_width bo_height bo_floor bo_goals bo_live bo_boxes bo_person hBS bo_liveBesideInRow bo_liveBesideInColumn, cI G hBS 64 aBS]) [1, 2, 0] rfl
  replace hD := hD.sub (ws' := [cPB hPB hTX pb_textLength hPI hBO hLO hMT hSE, cBO hBO bo_width bo_height bo_floor bo_goals bo_live bo_boxes bo_person hBS bo_liveBesideInRow bo_liveBesideInColumn, cI G hBS 64 aBS]) [1, 2, 0] rfl rfl
  refine lv_lstore (lv' := [(5, .long r_1), (0, .ref hPB), (1, .int v1), (2, .int v2), (3, .int v3), (4, .int v4)]) X.1 X.2.1 dX5_pushes_6 hl (by decide) rfl (fun ls hl => ?_)
  refine lv_aload_n X.1 X.2.1 dX5_pushes_8 rfl (lv_at hl 1 rfl) ?_
  refine lv_iload_n X.1 X.2.1 dX5_pushes_9 rfl (lv_at hl 4 rfl) ?_
  refine lv_iload X.1 X.2.1 dX5_pushes_10 (lv_at hl 5 rfl) ?_
  refine g_xl (wr := [cI G hBS 64 aBS]) X [0, 1] [2] (g_rVx (As := [.int v3, .int v4]) (rest := []) X (c_PB_existing l G hPB hTX hPI hBO hBS hLO hMT hSE pb_textLength bo_width bo_height bo_floor bo_goals bo_live bo_boxes bo_person bo_liveBesideInRow bo_liveBesideInColumn v3 v4 _ _ h hl0 _) lk_X5_168 rfl rfl ⟨Nat.le_of_ble_eq_true rfl, Nat.le_of_ble_eq_true rfl⟩ hP hD hS [0, 1] rfl rfl 0 5 rfl rfl rfl hl.1 rfl (Nat.le_of_ble_eq_true rfl) dX5_pushes_12 ⟨Nat.le_of_ble_eq_true rfl, Nat.le_of_ble_eq_true rfl⟩) hP hD hS rfl rfl rfl (by decide) (fun E ce q9 kd u H locs h hE hP hD hS h7 h8 h9 => g_pass (w1 := (fun (u : (Nat → Int32)) => [cPB hPB hTX pb_textLength hPI hBO hLO hMT hSE, cBO hBO bo_width bo_height bo_floor bo_goals bo_live bo_boxes bo_person hBS bo_liveBesideInRow bo_liveBesideInColumn, cI G hBS 64 u])) (px := (fun (k : Int32) (u : (Nat → Int32)) => px k u)) X hET kd hE aBS h (hP.sub (ws' := [cPB hPB hTX pb_textLength hPI hBO hLO hMT hSE, cBO hBO bo_width bo_height bo_floor bo_goals bo_live bo_boxes bo_person hBS bo_liveBesideInRow bo_liveBesideInColumn, cI G hBS 64 aBS]) [1, 2, 0] rfl) (hD.sub (ws' := [cPB hPB hTX pb_textLength hPI hBO hLO hMT hSE, cBO hBO bo_width bo_height bo_floor bo_goals bo_live bo_boxes bo_person hBS bo_liveBesideInRow bo_liveBesideInColumn, cI G hBS 64 aBS]) [1, 2, 0] rfl rfl) hS h7 h8 h9 (Nat.le_of_ble_eq_true rfl) (Nat.le_of_ble_eq_true rfl)) (fun r_3 u H locs h hP hD hS => ?_)
  try dsimp only at h
  replace hP := hP.sub (ws' := [cPB hPB hTX pb_textLength hPI hBO hLO hMT hSE, cBO hBO bo_width bo_height bo_floor bo_goals bo_live bo_boxes bo_person hBS bo_liveBesideInRow bo_liveBesideInColumn, cI G hBS 64 aBS]) [1, 2, 0] rfl
  replace hD := hD.sub (ws' := [cPB hPB hTX pb_textLength hPI hBO hLO hMT hSE, cBO hBO bo_width bo_height bo_floor bo_goals bo_live bo_boxes bo_person hBS bo_liveBesideInRow bo_liveBesideInColumn, cI G hBS 64 aBS]) [1, 2, 0] rfl rfl
  refine lv_lstore (lv' := [(7, .long r_3), (5, .long r_1), (0, .ref hPB), (1, .int v1), (2, .int v2), (3, .int v3), (4, .int v4)]) X.1 X.2.1 dX5_pushes_15 hl (by decide) rfl (fun ls hl => ?_)
  refine lv_aload_n X.1 X.2.1 dX5_pushes_17 rfl (lv_at hl 2 rfl) ?_
  refine g_get X hP 0 5 3 (v := .ref hBO) rfl rfl inX5 (by decide) fl_X5_23 rfl dX5_pushes_18 ?_
  refine lv_lload X.1 X.2.1 dX5_pushes_21 (lv_at hl 1 rfl) ?_
  refine g_cv (wr := [cPB hPB hTX pb_textLength hPI hBO hLO hMT hSE]) X [1, 2] [0] (g_rV (As := [.long r_1]) (rest := []) X (c_BO_fillBoxSteps l G hBO hBS bo_width bo_height bo_floor bo_goals bo_live bo_boxes bo_person bo_liveBesideInRow bo_liveBesideInColumn aBS r_1 _ h _) lk_X5_193 rfl rfl ⟨Nat.le_of_ble_eq_true rfl, Nat.le_of_ble_eq_true rfl⟩ hP hD hS [1, 2] rfl rfl 1 0 rfl rfl rfl hl.1 rfl (Nat.le_of_ble_eq_true rfl) dX5_pushes_23 ⟨Nat.le_of_ble_eq_true rfl, Nat.le_of_ble_eq_true rfl⟩) hP hD hS rfl rfl rfl (by decide) (fun u H locs h hP hD hS => ?_)
  obtain ⟨aBS_5, rfl⟩ : ∃ z, z = u := ⟨_, rfl⟩
  try dsimp only at h
  replace hP := hP.sub (ws' := [cPB hPB hTX pb_textLength hPI hBO hLO hMT hSE, cBO hBO bo_width bo_height bo_floor bo_goals bo_live bo_boxes bo_person hBS bo_liveBesideInRow bo_liveBesideInColumn, cI G hBS 64 aBS_5]) [0, 1, 2] rfl
  replace hD := hD.sub (ws' := [cPB hPB hTX pb_textLength hPI hBO hLO hMT hSE, cBO hBO bo_width bo_height bo_floor bo_goals bo_live bo_boxes bo_person hBS bo_liveBesideInRow bo_liveBesideInColumn, cI G hBS 64 aBS_5]) [0, 1, 2] rfl rfl
  refine lv_aload_n X.1 X.2.1 dX5_pushes_26 rfl (lv_at hl 2 rfl) ?_
  refine g_get X hP 0 5 3 (v := .ref hBO) rfl rfl inX5 (by decide) fl_X5_23 rfl dX5_pushes_27 ?_
  refine g_get X hP 1 0 7 (v := .ref hBS) rfl rfl inX0 (by decide) fl_X5_197 rfl dX5_pushes_30 ?_
  refine lv_lload X.1 X.2.1 dX5_pushes_33 (lv_at hl 0 rfl) ?_
  refine g_ci (wr := [cPB hPB hTX pb_textLength hPI hBO hLO hMT hSE, cBO hBO bo_width bo_height bo_floor bo_goals bo_live bo_boxes bo_person hBS bo_liveBesideInRow bo_liveBesideInColumn, cI G hBS 64 aBS_5]) X [] [0, 1, 2] (g_rS (As := [.long r_3]) (rest := [.ref hBS]) X (c_PB_spotOf l G r_3 _ h _) lk_X5_207 rfl rfl ⟨Nat.le_of_ble_eq_true rfl, Nat.le_of_ble_eq_true rfl⟩ hP hD hS [] rfl rfl rfl hl.1 rfl (Nat.le_of_ble_eq_true rfl) dX5_pushes_35 ⟨Nat.le_of_ble_eq_true rfl, Nat.le_of_ble_eq_true rfl⟩) hP hD hS rfl rfl rfl (by decide) (fun r_6 u H locs h hP hD hS => ?_)
  try dsimp only at h
  replace hP := hP.sub (ws' := [cPB hPB hTX pb_textLength hPI hBO hLO hMT hSE, cBO hBO bo_width bo_height bo_floor bo_goals bo_live bo_boxes bo_person hBS bo_liveBesideInRow bo_liveBesideInColumn, cI G hBS 64 aBS_5]) [0, 1, 2] rfl
  replace hD := hD.sub (ws' := [cPB hPB hTX pb_textLength hPI hBO hLO hMT hSE, cBO hBO bo_width bo_height bo_floor bo_goals bo_live bo_boxes bo_person hBS bo_liveBesideInRow bo_liveBesideInColumn, cI G hBS 64 aBS_5]) [0, 1, 2] rfl rfl
  obtain ⟨hin, h⟩ := h
  refine va_iald (D := G.1) X.1 X.2.1 X.k.1 hP 2 0 rfl rfl hin dX5_pushes_38 ?_
  refine W.widen (k := 2) (n := 12) (Nat.le_of_ble_eq_true rfl) (Nat.le_of_ble_eq_true rfl) ?_
  exact vx_ret (g_iret X aBS_5 h hP hD hS dX5_pushes_39)
