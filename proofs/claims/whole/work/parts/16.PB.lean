abbrev rm_PB_unit : Room := { frames := 0, cells := 0, slots := 0, locals := 0 }
set_option maxHeartbeats 4000000 in
set_option maxRecDepth 100000 in
theorem c_PB_unit (l : Launch) (G : gEnv) (hPB : Nat) (hTX : Nat) (hPI : Nat) (hBO : Nat) (hLO : Nat) (hMT : Nat) (hSE : Nat) (pb_textLength : Int32) (aTX : Nat → Int32) (v1 : Int32) (post : Int32 → Int32 → (Nat → Int32) → Prop) (h : PB_unit pb_textLength aTX v1 post) (sz : Nat) : Met l yX5_unit (Cond.code yX5_unit cX5_unit 2 (some .boolean) :: wAll) (rm_PB_unit) (gPc G [.ref hPB, .int v1] [cPB hPB hTX pb_textLength hPI hBO hLO hMT hSE, cI G hTX 160 aTX] sz) (gQi G (fun (r : Int32) (u : Int32 × (Nat → Int32)) => post r u.1 u.2) (fun (u : Int32 × (Nat → Int32)) => [cPB hPB hTX u.1 hPI hBO hLO hMT hSE, cI G hTX 160 u.2]) (va_A [cPB hPB hTX pb_textLength hPI hBO hLO hMT hSE, cI G hTX 160 aTX] sz)) 0 0 (va_A [cPB hPB hTX pb_textLength hPI hBO hLO hMT hSE, cI G hTX 160 aTX] sz) := by
  refine Met.ofW (cc := cX5_unit) (maxL := 2) (ret := (some .boolean)) (by decide) rfl ?_
  intro p e s m args below meth c s₁ B hml hv
  obtain ⟨rfl, hsz, hP, hK, hD0⟩ := hv
  subst hsz
  have X := gX.ofB (ws := [cPB hPB hTX pb_textLength hPI hBO hLO hMT hSE, cI G hTX 160 aTX]) B hml hK hD0
  have hD := hD0.self (sz := s.heap.size)
  generalize hAe : va_A [cPB hPB hTX pb_textLength hPI hBO hLO hMT hSE, cI G hTX 160 aTX] s.heap.size = A at X hD ⊢
  have hS : va_S A s.heap s.heap [] := va_S.rf
  have hl := lv_entry ([.ref hPB, .int v1]) (n := 2) (Nat.le_of_ble_eq_true rfl)
  rw [lg_entry_eq]
  generalize (lg_sl ([.ref hPB, .int v1]) ++ List.replicate (2 - (lg_sl ([.ref hPB, .int v1])).length) Slot.unset).toArray = ls at hl ⊢
  have hl : lv_has ls 2 [(0, .ref hPB), (1, .int v1)] := hl
  dsimp only [headSpec]
  unfold PB_unit at h
  refine lv_iload_n X.1 X.2.1 dX5_unit_0 rfl (lv_at hl 1 rfl) ?_
  refine lv_if_lt (tgt := 21) X.1 X.2.1 dX5_unit_1 (by decide) (fun hc => ?_) (fun hc => ?_)
  · replace h := Eq.mp (if_pos hc) h
    refine lv_iconst (v := (0 : Int32)) X.1 X.2.1 dX5_unit_21 (by decide) ?_
    exact g_zret X (by decide) (pb_textLength, aTX) h hP hD hS dX5_unit_22
  · replace h := Eq.mp (if_neg hc) h
    refine lv_iload_n X.1 X.2.1 dX5_unit_4 rfl (lv_at hl 1 rfl) ?_
    refine lv_sipush (v := (255 : Int32)) X.1 X.2.1 dX5_unit_5 (by decide) ?_
    refine lv_icmp_gt (tgt := 21) X.1 X.2.1 dX5_unit_8 (by decide) (fun hc => ?_) (fun hc => ?_)
    · replace h := Eq.mp (if_pos hc) h
      refine lv_iconst (v := (0 : Int32)) X.1 X.2.1 dX5_unit_21 (by decide) ?_
      exact g_zret X (by decide) (pb_textLength, aTX) h hP hD hS dX5_unit_22
    · replace h := Eq.mp (if_neg hc) h
      refine lv_aload_n X.1 X.2.1 dX5_unit_11 rfl (lv_at hl 0 rfl) ?_
      refine g_get X hP 0 5 1 (v := .int pb_textLength) rfl rfl inX5 (by decide) fl_X5_48 rfl dX5_unit_12 ?_
      refine lv_sipush (v := (160 : Int32)) X.1 X.2.1 dX5_unit_15 (by decide) ?_
      refine lv_icmp_lt (tgt := 23) X.1 X.2.1 dX5_unit_18 (by decide) (fun hc => ?_) (fun hc => ?_)
      · replace h := Eq.mp (if_pos hc) h
        refine lv_aload_n X.1 X.2.1 dX5_unit_23 rfl (lv_at hl 0 rfl) ?_
        refine g_get X hP 0 5 0 (v := .ref hTX) rfl rfl inX5 (by decide) fl_X5_9 rfl dX5_unit_24 ?_
        refine lv_aload_n X.1 X.2.1 dX5_unit_27 rfl (lv_at hl 0 rfl) ?_
        refine g_get X hP 0 5 1 (v := .int pb_textLength) rfl rfl inX5 (by decide) fl_X5_48 rfl dX5_unit_28 ?_
        refine lv_iload_n X.1 X.2.1 dX5_unit_31 rfl (lv_at hl 1 rfl) ?_
        obtain ⟨hin, h⟩ := h
        refine g_ist X hP hD hS 1 rfl hin dX5_unit_32 (fun aTX_1 e_aTX_1 H locs hP hD hS => ?_)
        replace h := h aTX_1 e_aTX_1
        replace hP : va_P G.1 gCl [cPB hPB hTX pb_textLength hPI hBO hLO hMT hSE, cI G hTX 160 aTX_1] H := hP
        replace hD : va_D A [cPB hPB hTX pb_textLength hPI hBO hLO hMT hSE, cI G hTX 160 aTX_1] := hD
        refine lv_aload_n X.1 X.2.1 dX5_unit_33 rfl (lv_at hl 0 rfl) ?_
        refine lv_dup X.1 X.2.1 dX5_unit_34 rfl ?_
        refine g_get X hP 0 5 1 (v := .int pb_textLength) rfl rfl inX5 (by decide) fl_X5_48 rfl dX5_unit_35 ?_
        refine lv_iconst (v := (1 : Int32)) X.1 X.2.1 dX5_unit_38 (by decide) ?_
        refine lv_iadd X.1 X.2.1 dX5_unit_39 ?_
        refine lv_topi (fun pb_textLength_2 e_pb_textLength_2 => ?_)
        replace h := h pb_textLength_2 e_pb_textLength_2
        refine g_put X hP hD hS 0 5 1 (v := .int pb_textLength_2) rfl rfl inX5 tyX5 tyX5_ok nmX5 (by decide) fl_X5_48 rfl rfl rfl rfl (Nat.le_of_ble_eq_true rfl) dX5_unit_40 (fun H locs hP hD hS => ?_)
        replace hP : va_P G.1 gCl [cPB hPB hTX pb_textLength_2 hPI hBO hLO hMT hSE, cI G hTX 160 aTX_1] H := hP
        replace hD : va_D A [cPB hPB hTX pb_textLength_2 hPI hBO hLO hMT hSE, cI G hTX 160 aTX_1] := hD
        refine lv_iconst (v := (1 : Int32)) X.1 X.2.1 dX5_unit_43 (by decide) ?_
        exact g_zret X (by decide) (pb_textLength_2, aTX_1) h hP hD hS dX5_unit_44
      · replace h := Eq.mp (if_neg hc) h
        refine lv_iconst (v := (0 : Int32)) X.1 X.2.1 dX5_unit_21 (by decide) ?_
        exact g_zret X (by decide) (pb_textLength, aTX) h hP hD hS dX5_unit_22
abbrev rm_PB_takeText : Room := { frames := 0, cells := 0, slots := 0, locals := 0 }
set_option maxHeartbeats 4000000 in
set_option maxRecDepth 100000 in
theorem c_PB_takeText (l : Launch) (G : gEnv) (hPB : Nat) (hTX : Nat) (hPI : Nat) (hBO : Nat) (hLO : Nat) (hMT : Nat) (hSE : Nat) (pb_textLength : Int32) (post : Int32 → Int32 → Prop) (h : PB_takeText pb_textLength post) (sz : Nat) : Met l yX5_takeText (Cond.code yX5_takeText cX5_takeText 2 (some .int) :: wAll) (rm_PB_takeText) (gPc G [.ref hPB] [cPB hPB hTX pb_textLength hPI hBO hLO hMT hSE] sz) (gQi G (fun (r : Int32) (u : Int32) => post r u) (fun (u : Int32) => [cPB hPB hTX u hPI hBO hLO hMT hSE]) (va_A [cPB hPB hTX pb_textLength hPI hBO hLO hMT hSE] sz)) 0 0 (va_A [cPB hPB hTX pb_textLength hPI hBO hLO hMT hSE] sz) := by
  refine Met.ofW (cc := cX5_takeText) (maxL := 2) (ret := (some .int)) (by decide) rfl ?_
  intro p e s m args below meth c s₁ B hml hv
  obtain ⟨rfl, hsz, hP, hK, hD0⟩ := hv
  subst hsz
  have X := gX.ofB (ws := [cPB hPB hTX pb_textLength hPI hBO hLO hMT hSE]) B hml hK hD0
  have hD := hD0.self (sz := s.heap.size)
  generalize hAe : va_A [cPB hPB hTX pb_textLength hPI hBO hLO hMT hSE] s.heap.size = A at X hD ⊢
  have hS : va_S A s.heap s.heap [] := va_S.rf
  have hl := lv_entry ([.ref hPB]) (n := 2) (Nat.le_of_ble_eq_true rfl)
  rw [lg_entry_eq]
  generalize (lg_sl ([.ref hPB]) ++ List.replicate (2 - (lg_sl ([.ref hPB])).length) Slot.unset).toArray = ls at hl ⊢
  have hl : lv_has ls 2 [(0, .ref hPB)] := hl
  dsimp only [headSpec]
  unfold PB_takeText at h
  refine lv_aload_n X.1 X.2.1 dX5_takeText_0 rfl (lv_at hl 0 rfl) ?_
  refine g_get X hP 0 5 1 (v := .int pb_textLength) rfl rfl inX5 (by decide) fl_X5_48 rfl dX5_takeText_1 ?_
  refine lv_istore_n (lv' := [(1, .int pb_textLength), (0, .ref hPB)]) X.1 X.2.1 dX5_takeText_4 rfl hl (by decide) rfl (fun ls hl => ?_)
  refine lv_aload_n X.1 X.2.1 dX5_takeText_5 rfl (lv_at hl 1 rfl) ?_
  refine lv_iconst (v := (0 : Int32)) X.1 X.2.1 dX5_takeText_6 (by decide) ?_
  refine g_put X hP hD hS 0 5 1 (v := .int (0 : Int32)) rfl rfl inX5 tyX5 tyX5_ok nmX5 (by decide) fl_X5_48 rfl rfl rfl rfl (Nat.le_of_ble_eq_true rfl) dX5_takeText_7 (fun H locs hP hD hS => ?_)
  replace hP : va_P G.1 gCl [cPB hPB hTX (0 : Int32) hPI hBO hLO hMT hSE] H := hP
  replace hD : va_D A [cPB hPB hTX (0 : Int32) hPI hBO hLO hMT hSE] := hD
  refine lv_iload_n X.1 X.2.1 dX5_takeText_10 rfl (lv_at hl 0 rfl) ?_
  exact g_iret X (0 : Int32) h hP hD hS dX5_takeText_11
abbrev rm_PB_read : Room := { frames := 4, cells := 0, slots := 0, locals := 87 }
set_option maxHeartbeats 4000000 in
set_option maxRecDepth 100000 in
theorem s_PB_read_14 {p : Program} {l : Launch} {e : Env} {s : State} {m : MethodId} {args : Array Value} {below : List Frame} {meth : Method} {c : Code} {G : gEnv} {A : Nat → Prop} {hPB : Nat} {hTX : Nat} {hPI : Nat} {hBO : Nat} {hBS : Nat} {hLO : Nat} {hMA : Nat} {hMT : Nat} {hSE : Nat} {aTX : Nat → Int32} {post : Int32 → Int32 → Int32 → Int32 → Int64 → Int64 → Int64 → Int64 → Int32 → Int32 → Int32 → Int32 → Int64 → Int64 → Int64 → Int64 → Int64 → Int64 → Int64 → Int32 → Int32 → Int32 → Int32 → Prop} (X : gX p m meth c cX5_read 3 RX5 (some .int) s args G A)  : ∀ (n : Nat) (pb_textLength : Int32) (pi_width : Int32) (pi_height : Int32) (pi_walls : Int64) (pi_goals : Int64) (pi_boxes : Int64) (pi_person : Int64) (pi_x : Int32) (pi_endedRows : Int32) (bo_width : Int32) (bo_height : Int32) (bo_floor : Int64) (bo_goals : Int64) (bo_live : Int64) (bo_boxes : Int64) (bo_person : Int64) (bo_liveBesideInRow : Int64) (bo_liveBesideInColumn : Int64) (lo_kept : Int32) (lo_moves : Int32) (lo_pushed : Int32) (lo_end : Int32) (v1 : Int32) (v2 : Int32) (H : Heap) (locs : List Loc) (ls : Array Slot), PB_read_14 aTX post n pb_textLength pi_width pi_height pi_walls pi_goals pi_boxes pi_person pi_x pi_endedRows bo_width bo_height bo_floor bo_goals bo_live bo_boxes bo_person bo_liveBesideInRow bo_liveBesideInColumn lo_kept lo_moves lo_pushed lo_end v1 v2 → va_P G.1 gCl [cPB hPB hTX pb_textLength hPI hBO hLO hMT hSE, cI G hTX 160 aTX, cPI hPI pi_width pi_height pi_walls pi_goals pi_boxes pi_person pi_x pi_endedRows, cBO hBO bo_width bo_height bo_floor bo_goals bo_live bo_boxes bo_person hBS bo_liveBesideInRow bo_liveBesideInColumn, cLO hLO lo_kept lo_moves lo_pushed hMA lo_end] H → va_D A [cPB hPB hTX pb_textLength hPI hBO hLO hMT hSE, cI G hTX 160 aTX, cPI hPI pi_width pi_height pi_walls pi_goals pi_boxes pi_person pi_x pi_endedRows, cBO hBO bo_width bo_height bo_floor bo_goals bo_live bo_boxes bo_person hBS bo_liveBesideInRow bo_liveBesideInColumn, cLO hLO lo_kept lo_moves lo_pushed hMA lo_end] → va_S A s.heap H locs → lv_has ls 3 [(0, .ref hPB), (1, .int v1), (2, .int v2)] → W p l e rm_PB_read s m args below meth c H locs 0 0 (MQ below (gQi G (fun (r : Int32) (u : Int32 × Int32 × Int32 × Int64 × Int64 × Int64 × Int64 × Int32 × Int32 × Int32 × Int32 × Int64 × Int64 × Int64 × Int64 × Int64 × Int64 × Int64 × Int32 × Int32 × Int32 × Int32) => post r u.1 u.2.1 u.2.2.1 u.2.2.2.1 u.2.2.2.2.1 u.2.2.2.2.2.1 u.2.2.2.2.2.2.1 u.2.2.2.2.2.2.2.1 u.2.2.2.2.2.2.2.2.1 u.2.2.2.2.2.2.2.2.2.1 u.2.2.2.2.2.2.2.2.2.2.1 u.2.2.2.2.2.2.2.2.2.2.2.1 u.2.2.2.2.2.2.2.2.2.2.2.2.1 u.2.2.2.2.2.2.2.2.2.2.2.2.2.1 u.2.2.2.2.2.2.2.2.2.2.2.2.2.2.1 u.2.2.2.2.2.2.2.2.2.2.2.2.2.2.2.1 u.2.2.2.2.2.2.2.2.2.2.2.2.2.2.2.2.1 u.2.2.2.2.2.2.2.2.2.2.2.2.2.2.2.2.2.1 u.2.2.2.2.2.2.2.2.2.2.2.2.2.2.2.2.2.2.1 u.2.2.2.2.2.2.2.2.2.2.2.2.2.2.2.2.2.2.2.1 u.2.2.2.2.2.2.2.2.2.2.2.2.2.2.2.2.2.2.2.2.1 u.2.2.2.2.2.2.2.2.2.2.2.2.2.2.2.2.2.2.2.2.2) (fun (u : Int32 × Int32 × Int32 × Int64 × Int64 × Int64 × Int64 × Int32 × Int32 × Int32 × Int32 × Int64 × Int64 × Int64 × Int64 × Int64 × Int64 × Int64 × Int32 × Int32 × Int32 × Int32) => [cPB hPB hTX u.1 hPI hBO hLO hMT hSE, cI G hTX 160 aTX, cPI hPI u.2.1 u.2.2.1 u.2.2.2.1 u.2.2.2.2.1 u.2.2.2.2.2.1 u.2.2.2.2.2.2.1 u.2.2.2.2.2.2.2.1 u.2.2.2.2.2.2.2.2.1, cBO hBO u.2.2.2.2.2.2.2.2.2.1 u.2.2.2.2.2.2.2.2.2.2.1 u.2.2.2.2.2.2.2.2.2.2.2.1 u.2.2.2.2.2.2.2.2.2.2.2.2.1 u.2.2.2.2.2.2.2.2.2.2.2.2.2.1 u.2.2.2.2.2.2.2.2.2.2.2.2.2.2.1 u.2.2.2.2.2.2.2.2.2.2.2.2.2.2.2.1 hBS u.2.2.2.2.2.2.2.2.2.2.2.2.2.2.2.2.1 u.2.2.2.2.2.2.2.2.2.2.2.2.2.2.2.2.2.1, cLO hLO u.2.2.2.2.2.2.2.2.2.2.2.2.2.2.2.2.2.2.1 u.2.2.2.2.2.2.2.2.2.2.2.2.2.2.2.2.2.2.2.1 u.2.2.2.2.2.2.2.2.2.2.2.2.2.2.2.2.2.2.2.2.1 hMA u.2.2.2.2.2.2.2.2.2.2.2.2.2.2.2.2.2.2.2.2.2]) A) args s 0 0 A) (F0 m 14 ls []) := by
  intro n
  induction n with
  | zero => intro pb_textLength pi_width pi_height pi_walls pi_goals pi_boxes pi_person pi_x pi_endedRows bo_width bo_height bo_floor bo_goals bo_live bo_boxes bo_person bo_liveBesideInRow bo_liveBesideInColumn lo_kept lo_moves lo_pushed lo_end v1 v2 H locs ls h _ _ _ _; exact h.elim
  | succ n ih =>
    intro pb_textLength pi_width pi_height pi_walls pi_goals pi_boxes pi_person pi_x pi_endedRows bo_width bo_height bo_floor bo_goals bo_live bo_boxes bo_person bo_liveBesideInRow bo_liveBesideInColumn lo_kept lo_moves lo_pushed lo_end v1 v2 H locs ls h hP hD hS hl
    unfold PB_read_14 at h
    refine lv_iload_n X.1 X.2.1 dX5_read_14 rfl (lv_at hl 2 rfl) ?_
    refine lv_iload_n X.1 X.2.1 dX5_read_15 rfl (lv_at hl 1 rfl) ?_
    refine lv_icmp_ge (tgt := 45) X.1 X.2.1 dX5_read_16 (by decide) (fun hc => ?_) (fun hc => ?_)
    · replace h := Eq.mp (if_pos hc) h
      refine lv_aload_n X.1 X.2.1 dX5_read_45 rfl (lv_at hl 0 rfl) ?_
      refine g_get X hP 0 5 2 (v := .ref hPI) rfl rfl inX5 (by decide) fl_X5_16 rfl dX5_read_46 ?_
      refine g_ci (wr := [cPB hPB hTX pb_textLength hPI hBO hLO hMT hSE, cI G hTX 160 aTX, cBO hBO bo_width bo_height bo_floor bo_goals bo_live bo_boxes bo_person hBS bo_liveBesideInRow bo_liveBesideInColumn, cLO hLO lo_kept lo_moves lo_pushed hMA lo_end]) X [2] [0, 1, 3, 4] (g_rV (As := []) (rest := []) X (c_PI_isBoard l G hPI pi_width pi_height pi_walls pi_goals pi_boxes pi_person pi_x pi_endedRows _ h _) lk_X5_63 rfl rfl ⟨Nat.le_of_ble_eq_true rfl, Nat.le_of_ble_eq_true rfl⟩ hP hD hS [2] rfl rfl 2 3 rfl rfl rfl hl.1 rfl (Nat.le_of_ble_eq_true rfl) dX5_read_49 ⟨Nat.le_of_ble_eq_true rfl, Nat.le_of_ble_eq_true rfl⟩) hP hD hS rfl rfl rfl (by decide) (fun r_1 u H locs h hP hD hS => ?_)
      try dsimp only at h
      replace hP := hP.sub (ws' := [cPB hPB hTX pb_textLength hPI hBO hLO hMT hSE, cI G hTX 160 aTX, cPI hPI pi_width pi_height pi_walls pi_goals pi_boxes pi_person pi_x pi_endedRows, cBO hBO bo_width bo_height bo_floor bo_goals bo_live bo_boxes bo_person hBS bo_liveBesideInRow bo_liveBesideInColumn, cLO hLO lo_kept lo_moves lo_pushed hMA lo_end]) [0, 1, 4, 2, 3] rfl
      replace hD := hD.sub (ws' := [cPB hPB hTX pb_textLength hPI hBO hLO hMT hSE, cI G hTX 160 aTX, cPI hPI pi_width pi_height pi_walls pi_goals pi_boxes pi_person pi_x pi_endedRows, cBO hBO bo_width bo_height bo_floor bo_goals bo_live bo_boxes bo_person hBS bo_liveBesideInRow bo_liveBesideInColumn, cLO hLO lo_kept lo_moves lo_pushed hMA lo_end]) [0, 1, 4, 2, 3] rfl rfl
      refine lv_if_ne (tgt := 59) X.1 X.2.1 dX5_read_52 (by decide) (fun hc => ?_) (fun hc => ?_)
      · replace h := Eq.mp (if_neg hc) h
        refine lv_aload_n X.1 X.2.1 dX5_read_59 rfl (lv_at hl 0 rfl) ?_
        refine g_get X hP 0 5 3 (v := .ref hBO) rfl rfl inX5 (by decide) fl_X5_23 rfl dX5_read_60 ?_
        refine lv_aload_n X.1 X.2.1 dX5_read_63 rfl (lv_at hl 0 rfl) ?_
        refine g_get X hP 0 5 2 (v := .ref hPI) rfl rfl inX5 (by decide) fl_X5_16 rfl dX5_read_64 ?_
        refine g_cv (wr := [cPB hPB hTX pb_textLength hPI hBO hLO hMT hSE, cI G hTX 160 aTX, cLO hLO lo_kept lo_moves lo_pushed hMA lo_end]) X [2, 3] [0, 1, 4] (g_rV (As := [.ref hPI]) (rest := []) X (c_BO_setUp l G hPI hBO hBS pi_width pi_height pi_walls pi_goals pi_boxes pi_person pi_x pi_endedRows bo_width bo_height bo_floor bo_goals bo_live bo_boxes bo_person bo_liveBesideInRow bo_liveBesideInColumn _ h _) lk_X5_67 rfl rfl ⟨Nat.le_of_ble_eq_true rfl, Nat.le_of_ble_eq_true rfl⟩ hP hD hS [2, 3] rfl rfl 3 0 rfl rfl rfl hl.1 rfl (Nat.le_of_ble_eq_true rfl) dX5_read_67 ⟨Nat.le_of_ble_eq_true rfl, Nat.le_of_ble_eq_true rfl⟩) hP hD hS rfl rfl rfl (by decide) (fun u H locs h hP hD hS => ?_)
        obtain ⟨bo_width_2, bo_height_3, bo_floor_4, bo_goals_5, bo_live_6, bo_boxes_7, bo_person_8, bo_liveBesideInRow_9, bo_liveBesideInColumn_10⟩ := u
        try dsimp only at h
        replace hP := hP.sub (ws' := [cPB hPB hTX pb_textLength hPI hBO hLO hMT hSE, cI G hTX 160 aTX, cPI hPI pi_width pi_height pi_walls pi_goals pi_boxes pi_person pi_x pi_endedRows, cBO hBO bo_width_2 bo_height_3 bo_floor_4 bo_goals_5 bo_live_6 bo_boxes_7 bo_person_8 hBS bo_liveBesideInRow_9 bo_liveBesideInColumn_10, cLO hLO lo_kept lo_moves lo_pushed hMA lo_end]) [0, 1, 3, 4, 2] rfl
        replace hD := hD.sub (ws' := [cPB hPB hTX pb_textLength hPI hBO hLO hMT hSE, cI G hTX 160 aTX, cPI hPI pi_width pi_height pi_walls pi_goals pi_boxes pi_person pi_x pi_endedRows, cBO hBO bo_width_2 bo_height_3 bo_floor_4 bo_goals_5 bo_live_6 bo_boxes_7 bo_person_8 hBS bo_liveBesideInRow_9 bo_liveBesideInColumn_10, cLO hLO lo_kept lo_moves lo_pushed hMA lo_end]) [0, 1, 3, 4, 2] rfl rfl
        refine lv_aload_n X.1 X.2.1 dX5_read_70 rfl (lv_at hl 0 rfl) ?_
        refine g_get X hP 0 5 4 (v := .ref hLO) rfl rfl inX5 (by decide) fl_X5_30 rfl dX5_read_71 ?_
        refine g_cv (wr := [cPB hPB hTX pb_textLength hPI hBO hLO hMT hSE, cI G hTX 160 aTX, cPI hPI pi_width pi_height pi_walls pi_goals pi_boxes pi_person pi_x pi_endedRows, cBO hBO bo_width_2 bo_height_3 bo_floor_4 bo_goals_5 bo_live_6 bo_boxes_7 bo_person_8 hBS bo_liveBesideInRow_9 bo_liveBesideInColumn_10]) X [4] [0, 1, 2, 3] (g_rV (As := []) (rest := []) X (c_LO_clear l G hLO hMA lo_kept lo_moves lo_pushed lo_end _ h _) lk_X5_71 rfl rfl ⟨Nat.le_of_ble_eq_true rfl, Nat.le_of_ble_eq_true rfl⟩ hP hD hS [4] rfl rfl 4 1 rfl rfl rfl hl.1 rfl (Nat.le_of_ble_eq_true rfl) dX5_read_74 ⟨Nat.le_of_ble_eq_true rfl, Nat.le_of_ble_eq_true rfl⟩) hP hD hS rfl rfl rfl (by decide) (fun u H locs h hP hD hS => ?_)
        obtain ⟨lo_kept_11, lo_moves_12, lo_pushed_13, lo_end_14⟩ := u
        try dsimp only at h
        replace hP := hP.sub (ws' := [cPB hPB hTX pb_textLength hPI hBO hLO hMT hSE, cI G hTX 160 aTX, cPI hPI pi_width pi_height pi_walls pi_goals pi_boxes pi_person pi_x pi_endedRows, cBO hBO bo_width_2 bo_height_3 bo_floor_4 bo_goals_5 bo_live_6 bo_boxes_7 bo_person_8 hBS bo_liveBesideInRow_9 bo_liveBesideInColumn_10, cLO hLO lo_kept_11 lo_moves_12 lo_pushed_13 hMA lo_end_14]) [0, 1, 2, 3, 4] rfl
        replace hD := hD.sub (ws' := [cPB hPB hTX pb_textLength hPI hBO hLO hMT hSE, cI G hTX 160 aTX, cPI hPI pi_width pi_height pi_walls pi_goals pi_boxes pi_person pi_x pi_endedRows, cBO hBO bo_width_2 bo_height_3 bo_floor_4 bo_goals_5 bo_live_6 bo_boxes_7 bo_person_8 hBS bo_liveBesideInRow_9 bo_liveBesideInColumn_10, cLO hLO lo_kept_11 lo_moves_12 lo_pushed_13 hMA lo_end_14]) [0, 1, 2, 3, 4] rfl rfl
        refine lv_aload_n X.1 X.2.1 dX5_read_77 rfl (lv_at hl 0 rfl) ?_
        refine g_get X hP 0 5 3 (v := .ref hBO) rfl rfl inX5 (by decide) fl_X5_23 rfl dX5_read_78 ?_
        refine g_get X hP 3 0 5 (v := .long bo_boxes_7) rfl rfl inX0 (by decide) fl_X5_72 rfl dX5_read_81 ?_
        refine g_ci (wr := [cPB hPB hTX pb_textLength hPI hBO hLO hMT hSE, cI G hTX 160 aTX, cPI hPI pi_width pi_height pi_walls pi_goals pi_boxes pi_person pi_x pi_endedRows, cBO hBO bo_width_2 bo_height_3 bo_floor_4 bo_goals_5 bo_live_6 bo_boxes_7 bo_person_8 hBS bo_liveBesideInRow_9 bo_liveBesideInColumn_10, cLO hLO lo_kept_11 lo_moves_12 lo_pushed_13 hMA lo_end_14]) X [] [0, 1, 2, 3, 4] (g_rS (As := [.long bo_boxes_7]) (rest := []) X (c_JL_bitCount l G bo_boxes_7 _ h _) lk_X5_76 rfl rfl ⟨Nat.le_of_ble_eq_true rfl, Nat.le_of_ble_eq_true rfl⟩ hP hD hS [] rfl rfl rfl hl.1 rfl (Nat.le_of_ble_eq_true rfl) dX5_read_84 ⟨Nat.le_of_ble_eq_true rfl, Nat.le_of_ble_eq_true rfl⟩) hP hD hS rfl rfl rfl (by decide) (fun r_15 u H locs h hP hD hS => ?_)
        try dsimp only at h
        replace hP := hP.sub (ws' := [cPB hPB hTX pb_textLength hPI hBO hLO hMT hSE, cI G hTX 160 aTX, cPI hPI pi_width pi_height pi_walls pi_goals pi_boxes pi_person pi_x pi_endedRows, cBO hBO bo_width_2 bo_height_3 bo_floor_4 bo_goals_5 bo_live_6 bo_boxes_7 bo_person_8 hBS bo_liveBesideInRow_9 bo_liveBesideInColumn_10, cLO hLO lo_kept_11 lo_moves_12 lo_pushed_13 hMA lo_end_14]) [0, 1, 2, 3, 4] rfl
        replace hD := hD.sub (ws' := [cPB hPB hTX pb_textLength hPI hBO hLO hMT hSE, cI G hTX 160 aTX, cPI hPI pi_width pi_height pi_walls pi_goals pi_boxes pi_person pi_x pi_endedRows, cBO hBO bo_width_2 bo_height_3 bo_floor_4 bo_goals_5 bo_live_6 bo_boxes_7 bo_person_8 hBS bo_liveBesideInRow_9 bo_liveBesideInColumn_10, cLO hLO lo_kept_11 lo_moves_12 lo_pushed_13 hMA lo_end_14]) [0, 1, 2, 3, 4] rfl rfl
        exact g_iret X (pb_textLength, pi_width, pi_height, pi_walls, pi_goals, pi_boxes, pi_person, pi_x, pi_endedRows, bo_width_2, bo_height_3, bo_floor_4, bo_goals_5, bo_live_6, bo_boxes_7, bo_person_8, bo_liveBesideInRow_9, bo_liveBesideInColumn_10, lo_kept_11, lo_moves_12, lo_pushed_13, lo_end_14) h hP hD hS dX5_read_87
      · replace h := Eq.mp (if_pos hc) h
        refine lv_sipush (v := (-200 : Int32)) X.1 X.2.1 dX5_read_55 (by decide) ?_
        exact g_iret X (pb_textLength, pi_width, pi_height, pi_walls, pi_goals, pi_boxes, pi_person, pi_x, pi_endedRows, bo_width, bo_height, bo_floor, bo_goals, bo_live, bo_boxes, bo_person, bo_liveBesideInRow, bo_liveBesideInColumn, lo_kept, lo_moves, lo_pushed, lo_end) h hP hD hS dX5_read_58
    · replace h := Eq.mp (if_neg hc) h
      refine lv_aload_n X.1 X.2.1 dX5_read_19 rfl (lv_at hl 0 rfl) ?_
      refine g_get X hP 0 5 2 (v := .ref hPI) rfl rfl inX5 (by decide) fl_X5_16 rfl dX5_read_20 ?_
      refine lv_aload_n X.1 X.2.1 dX5_read_23 rfl (lv_at hl 0 rfl) ?_
      refine g_get X hP 0 5 0 (v := .ref hTX) rfl rfl inX5 (by decide) fl_X5_9 rfl dX5_read_24 ?_
      refine lv_iload_n X.1 X.2.1 dX5_read_27 rfl (lv_at hl 2 rfl) ?_
      obtain ⟨hin, h⟩ := h
      refine va_iald (D := G.1) X.1 X.2.1 X.k.1 hP 1 0 rfl rfl hin dX5_read_28 ?_
      refine g_ci (wr := [cPB hPB hTX pb_textLength hPI hBO hLO hMT hSE, cI G hTX 160 aTX, cBO hBO bo_width bo_height bo_floor bo_goals bo_live bo_boxes bo_person hBS bo_liveBesideInRow bo_liveBesideInColumn, cLO hLO lo_kept lo_moves lo_pushed hMA lo_end]) X [2] [0, 1, 3, 4] (g_rV (As := [.int (aTX v2.toNatClampNeg)]) (rest := []) X (c_PI_takes l G hPI pi_width pi_height pi_walls pi_goals pi_boxes pi_person pi_x pi_endedRows (aTX v2.toNatClampNeg) _ h _) lk_X5_59 rfl rfl ⟨Nat.le_of_ble_eq_true rfl, Nat.le_of_ble_eq_true rfl⟩ hP hD hS [2] rfl rfl 2 3 rfl rfl rfl hl.1 rfl (Nat.le_of_ble_eq_true rfl) dX5_read_29 ⟨Nat.le_of_ble_eq_true rfl, Nat.le_of_ble_eq_true rfl⟩) hP hD hS rfl rfl rfl (by decide) (fun r_16 u H locs h hP hD hS => ?_)
      obtain ⟨pi_width_17, pi_height_18, pi_walls_19, pi_goals_20, pi_boxes_21, pi_person_22, pi_x_23, pi_endedRows_24⟩ := u
      try dsimp only at h
      replace hP := hP.sub (ws' := [cPB hPB hTX pb_textLength hPI hBO hLO hMT hSE, cI G hTX 160 aTX, cPI hPI pi_width_17 pi_height_18 pi_walls_19 pi_goals_20 pi_boxes_21 pi_person_22 pi_x_23 pi_endedRows_24, cBO hBO bo_width bo_height bo_floor bo_goals bo_live bo_boxes bo_person hBS bo_liveBesideInRow bo_liveBesideInColumn, cLO hLO lo_kept lo_moves lo_pushed hMA lo_end]) [0, 1, 4, 2, 3] rfl
      replace hD := hD.sub (ws' := [cPB hPB hTX pb_textLength hPI hBO hLO hMT hSE, cI G hTX 160 aTX, cPI hPI pi_width_17 pi_height_18 pi_walls_19 pi_goals_20 pi_boxes_21 pi_person_22 pi_x_23 pi_endedRows_24, cBO hBO bo_width bo_height bo_floor bo_goals bo_live bo_boxes bo_person hBS bo_liveBesideInRow bo_liveBesideInColumn, cLO hLO lo_kept lo_moves lo_pushed hMA lo_end]) [0, 1, 4, 2, 3] rfl rfl
      refine lv_if_ne (tgt := 39) X.1 X.2.1 dX5_read_32 (by decide) (fun hc => ?_) (fun hc => ?_)
      · replace h := Eq.mp (if_neg hc) h
        refine lv_iinc (v := (v2 + (1 : Int32))) (lv' := [(2, .int (v2 + (1 : Int32))), (0, .ref hPB), (1, .int v1)]) X.1 X.2.1 dX5_read_39 hl (k := 2) rfl rfl (by decide) rfl (fun ls hl => ?_)
        refine lv_goto (tgt := 14) X.1 X.2.1 dX5_read_42 (by decide) ?_
        exact ih pb_textLength pi_width_17 pi_height_18 pi_walls_19 pi_goals_20 pi_boxes_21 pi_person_22 pi_x_23 pi_endedRows_24 bo_width bo_height bo_floor bo_goals bo_live bo_boxes bo_person bo_liveBesideInRow bo_liveBesideInColumn lo_kept lo_moves lo_pushed lo_end v1 (v2 + (1 : Int32)) _ _ _ h hP hD hS (lv_sub hl [1, 2, 0] rfl)
      · replace h := Eq.mp (if_pos hc) h
        refine lv_iconst (v := (-1 : Int32)) X.1 X.2.1 dX5_read_35 (by decide) ?_
        refine lv_iload_n X.1 X.2.1 dX5_read_36 rfl (lv_at hl 2 rfl) ?_
        refine lv_isub X.1 X.2.1 dX5_read_37 ?_
        exact g_iret X (pb_textLength, pi_width_17, pi_height_18, pi_walls_19, pi_goals_20, pi_boxes_21, pi_person_22, pi_x_23, pi_endedRows_24, bo_width, bo_height, bo_floor, bo_goals, bo_live, bo_boxes, bo_person, bo_liveBesideInRow, bo_liveBesideInColumn, lo_kept, lo_moves, lo_pushed, lo_end) h hP hD hS dX5_read_38
set_option maxHeartbeats 4000000 in
set_option maxRecDepth 100000 in
theorem c_PB_read (l : Launch) (G : gEnv) (hPB : Nat) (hTX : Nat) (hPI : Nat) (hBO : Nat) (hBS : Nat) (hLO : Nat) (hMA : Nat) (hMT : Nat) (hSE : Nat) (pb_textLength : Int32) (aTX : Nat → Int32) (pi_width : Int32) (pi_height : Int32) (pi_walls : Int64) (pi_goals : Int64) (pi_boxes : Int64) (pi_person : Int64) (pi_x : Int32) (pi_endedRows : Int32) (bo_width : Int32) (bo_height : Int32) (bo_floor : Int64) (bo_goals : Int64) (bo_live : Int64) (bo_boxes : Int64) (bo_person : Int64) (bo_liveBesideInRow : Int64) (bo_liveBesideInColumn : Int64) (lo_kept : Int32) (lo_moves : Int32) (lo_pushed : Int32) (lo_end : Int32) (post : Int32 → Int32 → Int32 → Int32 → Int64 → Int64 → Int64 → Int64 → Int32 → Int32 → Int32 → Int32 → Int64 → Int64 → Int64 → Int64 → Int64 → Int64 → Int64 → Int32 → Int32 → Int32 → Int32 → Prop) (h : PB_read aTX pb_textLength pi_width pi_height pi_walls pi_goals pi_boxes pi_person pi_x pi_endedRows bo_width bo_height bo_floor bo_goals bo_live bo_boxes bo_person bo_liveBesideInRow bo_liveBesideInColumn lo_kept lo_moves lo_pushed lo_end post) (sz : Nat) : Met l yX5_read (Cond.code yX5_read cX5_read 3 (some .int) :: wAll) (rm_PB_read) (gPc G [.ref hPB] [cPB hPB hTX pb_textLength hPI hBO hLO hMT hSE, cI G hTX 160 aTX, cPI hPI pi_width pi_height pi_walls pi_goals pi_boxes pi_person pi_x pi_endedRows, cBO hBO bo_width bo_height bo_floor bo_goals bo_live bo_boxes bo_person hBS bo_liveBesideInRow bo_liveBesideInColumn, cLO hLO lo_kept lo_moves lo_pushed hMA lo_end] sz) (gQi G (fun (r : Int32) (u : Int32 × Int32 × Int32 × Int64 × Int64 × Int64 × Int64 × Int32 × Int32 × Int32 × Int32 × Int64 × Int64 × Int64 × Int64 × Int64 × Int64 × Int64 × Int32 × Int32 × Int32 × Int32) => post r u.1 u.2.1 u.2.2.1 u.2.2.2.1 u.2.2.2.2.1 u.2.2.2.2.2.1 u.2.2.2.2.2.2.1 u.2.2.2.2.2.2.2.1 u.2.2.2.2.2.2.2.2.1 u.2.2.2.2.2.2.2.2.2.1 u.2.2.2.2.2.2.2.2.2.2.1 u.2.2.2.2.2.2.2.2.2.2.2.1 u.2.2.2.2.2.2.2.2.2.2.2.2.1 u.2.2.2.2.2.2.2.2.2.2.2.2.2.1 u.2.2.2.2.2.2.2.2.2.2.2.2.2.2.1 u.2.2.2.2.2.2.2.2.2.2.2.2.2.2.2.1 u.2.2.2.2.2.2.2.2.2.2.2.2.2.2.2.2.1 u.2.2.2.2.2.2.2.2.2.2.2.2.2.2.2.2.2.1 u.2.2.2.2.2.2.2.2.2.2.2.2.2.2.2.2.2.2.1 u.2.2.2.2.2.2.2.2.2.2.2.2.2.2.2.2.2.2.2.1 u.2.2.2.2.2.2.2.2.2.2.2.2.2.2.2.2.2.2.2.2.1 u.2.2.2.2.2.2.2.2.2.2.2.2.2.2.2.2.2.2.2.2.2) (fun (u : Int32 × Int32 × Int32 × Int64 × Int64 × Int64 × Int64 × Int32 × Int32 × Int32 × Int32 × Int64 × Int64 × Int64 × Int64 × Int64 × Int64 × Int64 × Int32 × Int32 × Int32 × Int32) => [cPB hPB hTX u.1 hPI hBO hLO hMT hSE, cI G hTX 160 aTX, cPI hPI u.2.1 u.2.2.1 u.2.2.2.1 u.2.2.2.2.1 u.2.2.2.2.2.1 u.2.2.2.2.2.2.1 u.2.2.2.2.2.2.2.1 u.2.2.2.2.2.2.2.2.1, cBO hBO u.2.2.2.2.2.2.2.2.2.1 u.2.2.2.2.2.2.2.2.2.2.1 u.2.2.2.2.2.2.2.2.2.2.2.1 u.2.2.2.2.2.2.2.2.2.2.2.2.1 u.2.2.2.2.2.2.2.2.2.2.2.2.2.1 u.2.2.2.2.2.2.2.2.2.2.2.2.2.2.1 u.2.2.2.2.2.2.2.2.2.2.2.2.2.2.2.1 hBS u.2.2.2.2.2.2.2.2.2.2.2.2.2.2.2.2.1 u.2.2.2.2.2.2.2.2.2.2.2.2.2.2.2.2.2.1, cLO hLO u.2.2.2.2.2.2.2.2.2.2.2.2.2.2.2.2.2.2.1 u.2.2.2.2.2.2.2.2.2.2.2.2.2.2.2.2.2.2.2.1 u.2.2.2.2.2.2.2.2.2.2.2.2.2.2.2.2.2.2.2.2.1 hMA u.2.2.2.2.2.2.2.2.2.2.2.2.2.2.2.2.2.2.2.2.2]) (va_A [cPB hPB hTX pb_textLength hPI hBO hLO hMT hSE, cI G hTX 160 aTX, cPI hPI pi_width pi_height pi_walls pi_goals pi_boxes pi_person pi_x pi_endedRows, cBO hBO bo_width bo_height bo_floor bo_goals bo_live bo_boxes bo_person hBS bo_liveBesideInRow bo_liveBesideInColumn, cLO hLO lo_kept lo_moves lo_pushed hMA lo_end] sz)) 0 0 (va_A [cPB hPB hTX pb_textLength hPI hBO hLO hMT hSE, cI G hTX 160 aTX, cPI hPI pi_width pi_height pi_walls pi_goals pi_boxes pi_person pi_x pi_endedRows, cBO hBO bo_width bo_height bo_floor bo_goals bo_live bo_boxes bo_person hBS bo_liveBesideInRow bo_liveBesideInColumn, cLO hLO lo_kept lo_moves lo_pushed hMA lo_end] sz) := by
  refine Met.ofW (cc := cX5_read) (maxL := 3) (ret := (some .int)) (by decide) rfl ?_
  intro p e s m args below meth c s₁ B hml hv
  obtain ⟨rfl, hsz, hP, hK, hD0⟩ := hv
  subst hsz
  have X := gX.ofB (ws := [cPB hPB hTX pb_textLength hPI hBO hLO hMT hSE, cI G hTX 160 aTX, cPI hPI pi_width pi_height pi_walls pi_goals pi_boxes pi_person pi_x pi_endedRows, cBO hBO bo_width bo_height bo_floor bo_goals bo_live bo_boxes bo_person hBS bo_liveBesideInRow bo_liveBesideInColumn, cLO hLO lo_kept lo_moves lo_pushed hMA lo_end]) B hml hK hD0
  have hD := hD0.self (sz := s.heap.size)
  generalize hAe : va_A [cPB hPB hTX pb_textLength hPI hBO hLO hMT hSE, cI G hTX 160 aTX, cPI hPI pi_width pi_height pi_walls pi_goals pi_boxes pi_person pi_x pi_endedRows, cBO hBO bo_width bo_height bo_floor bo_goals bo_live bo_boxes bo_person hBS bo_liveBesideInRow bo_liveBesideInColumn, cLO hLO lo_kept lo_moves lo_pushed hMA lo_end] s.heap.size = A at X hD ⊢
  have hS : va_S A s.heap s.heap [] := va_S.rf
  have hl := lv_entry ([.ref hPB]) (n := 3) (Nat.le_of_ble_eq_true rfl)
  rw [lg_entry_eq]
  generalize (lg_sl ([.ref hPB]) ++ List.replicate (3 - (lg_sl ([.ref hPB])).length) Slot.unset).toArray = ls at hl ⊢
  have hl : lv_has ls 3 [(0, .ref hPB)] := hl
  dsimp only [headSpec]
  unfold PB_read at h
  refine lv_aload_n X.1 X.2.1 dX5_read_0 rfl (lv_at hl 0 rfl) ?_
  refine g_ci (wr := [cI G hTX 160 aTX, cPI hPI pi_width pi_height pi_walls pi_goals pi_boxes pi_person pi_x pi_endedRows, cBO hBO bo_width bo_height bo_floor bo_goals bo_live bo_boxes bo_person hBS bo_liveBesideInRow bo_liveBesideInColumn, cLO hLO lo_kept lo_moves lo_pushed hMA lo_end]) X [0] [1, 2, 3, 4] (g_rV (As := []) (rest := []) X (c_PB_takeText l G hPB hTX hPI hBO hLO hMT hSE pb_textLength _ h _) lk_X5_52 rfl rfl ⟨Nat.le_of_ble_eq_true rfl, Nat.le_of_ble_eq_true rfl⟩ hP hD hS [0] rfl rfl 0 5 rfl rfl rfl hl.1 rfl (Nat.le_of_ble_eq_true rfl) dX5_read_1 ⟨Nat.le_of_ble_eq_true rfl, Nat.le_of_ble_eq_true rfl⟩) hP hD hS rfl rfl rfl (by decide) (fun r_1 u H locs h hP hD hS => ?_)
  obtain ⟨pb_textLength_2, rfl⟩ : ∃ z, z = u := ⟨_, rfl⟩
  try dsimp only at h
  replace hP := hP.sub (ws' := [cPB hPB hTX pb_textLength_2 hPI hBO hLO hMT hSE, cI G hTX 160 aTX, cPI hPI pi_width pi_height pi_walls pi_goals pi_boxes pi_person pi_x pi_endedRows, cBO hBO bo_width bo_height bo_floor bo_goals bo_live bo_boxes bo_person hBS bo_liveBesideInRow bo_liveBesideInColumn, cLO hLO lo_kept lo_moves lo_pushed hMA lo_end]) [4, 0, 1, 2, 3] rfl
  replace hD := hD.sub (ws' := [cPB hPB hTX pb_textLength_2 hPI hBO hLO hMT hSE, cI G hTX 160 aTX, cPI hPI pi_width pi_height pi_walls pi_goals pi_boxes pi_person pi_x pi_endedRows, cBO hBO bo_width bo_height bo_floor bo_goals bo_live bo_boxes bo_person hBS bo_liveBesideInRow bo_liveBesideInColumn, cLO hLO lo_kept lo_moves lo_pushed hMA lo_end]) [4, 0, 1, 2, 3] rfl rfl
  refine lv_istore_n (lv' := [(1, .int r_1), (0, .ref hPB)]) X.1 X.2.1 dX5_read_4 rfl hl (by decide) rfl (fun ls hl => ?_)
  refine lv_aload_n X.1 X.2.1 dX5_read_5 rfl (lv_at hl 1 rfl) ?_
  refine g_get X hP 0 5 2 (v := .ref hPI) rfl rfl inX5 (by decide) fl_X5_16 rfl dX5_read_6 ?_
  refine g_cv (wr := [cPB hPB hTX pb_textLength_2 hPI hBO hLO hMT hSE, cI G hTX 160 aTX, cBO hBO bo_width bo_height bo_floor bo_goals bo_live bo_boxes bo_person hBS bo_liveBesideInRow bo_liveBesideInColumn, cLO hLO lo_kept lo_moves lo_pushed hMA lo_end]) X [2] [0, 1, 3, 4] (g_rV (As := []) (rest := []) X (c_PI_clear l G hPI pi_width pi_height pi_walls pi_goals pi_boxes pi_person pi_x pi_endedRows _ h _) lk_X5_56 rfl rfl ⟨Nat.le_of_ble_eq_true rfl, Nat.le_of_ble_eq_true rfl⟩ hP hD hS [2] rfl rfl 2 3 rfl rfl rfl hl.1 rfl (Nat.le_of_ble_eq_true rfl) dX5_read_9 ⟨Nat.le_of_ble_eq_true rfl, Nat.le_of_ble_eq_true rfl⟩) hP hD hS rfl rfl rfl (by decide) (fun u H locs h hP hD hS => ?_)
  obtain ⟨pi_width_3, pi_height_4, pi_walls_5, pi_goals_6, pi_boxes_7, pi_person_8, pi_x_9, pi_endedRows_10⟩ := u
  try dsimp only at h
  replace hP := hP.sub (ws' := [cPB hPB hTX pb_textLength_2 hPI hBO hLO hMT hSE, cI G hTX 160 aTX, cPI hPI pi_width_3 pi_height_4 pi_walls_5 pi_goals_6 pi_boxes_7 pi_person_8 pi_x_9 pi_endedRows_10, cBO hBO bo_width bo_height bo_floor bo_goals bo_live bo_boxes bo_person hBS bo_liveBesideInRow bo_liveBesideInColumn, cLO hLO lo_kept lo_moves lo_pushed hMA lo_end]) [0, 1, 4, 2, 3] rfl
  replace hD := hD.sub (ws' := [cPB hPB hTX pb_textLength_2 hPI hBO hLO hMT hSE, cI G hTX 160 aTX, cPI hPI pi_width_3 pi_height_4 pi_walls_5 pi_goals_6 pi_boxes_7 pi_person_8 pi_x_9 pi_endedRows_10, cBO hBO bo_width bo_height bo_floor bo_goals bo_live bo_boxes bo_person hBS bo_liveBesideInRow bo_liveBesideInColumn, cLO hLO lo_kept lo_moves lo_pushed hMA lo_end]) [0, 1, 4, 2, 3] rfl rfl
  refine lv_iconst (v := (0 : Int32)) X.1 X.2.1 dX5_read_12 (by decide) ?_
  refine lv_istore_n (lv' := [(2, .int (0 : Int32)), (1, .int r_1), (0, .ref hPB)]) X.1 X.2.1 dX5_read_13 rfl hl (by decide) rfl (fun ls hl => ?_)
  obtain ⟨n', h⟩ := h
  exact s_PB_read_14 X  n' pb_textLength_2 pi_width_3 pi_height_4 pi_walls_5 pi_goals_6 pi_boxes_7 pi_person_8 pi_x_9 pi_endedRows_10 bo_width bo_height bo_floor bo_goals bo_live bo_boxes bo_person bo_liveBesideInRow bo_liveBesideInColumn lo_kept lo_moves lo_pushed lo_end r_1 (0 : Int32) _ _ _ h hP hD hS (lv_sub hl [2, 1, 0] rfl)
abbrev rm_PB_goOnce : Room := { frames := 2, cells := 0, slots := 0, locals := 47 }
set_option maxHeartbeats 4000000 in
set_option maxRecDepth 100000 in
theorem s_PB_goOnce_42 {p : Program} {l : Launch} {e : Env} {s : State} {m : MethodId} {args : Array Value} {below : List Frame} {meth : Method} {c : Code} {G : gEnv} {A : Nat → Prop} {hPB : Nat} {hTX : Nat} {hPI : Nat} {hBO : Nat} {hBS : Nat} {hLO : Nat} {hMA : Nat} {hMT : Nat} {hSE : Nat} {pb_textLength : Int32} {bo_width : Int32} {bo_height : Int32} {bo_goals : Int64} {bo_live : Int64} {bo_liveBesideInRow : Int64} {bo_liveBesideInColumn : Int64} {bo_floor : Int64} {post : Int32 → Int64 → Int64 → Int32 → Int32 → Int32 → Int32 → (Nat → Int32) → Prop} (X : gX p m meth c cX5_goOnce 3 RX5 (some .int) s args G A)  : ∀ (bo_boxes : Int64) (bo_person : Int64) (lo_kept : Int32) (lo_moves : Int32) (lo_pushed : Int32) (lo_end : Int32) (aMA : (Nat → Int32)) (v2 : Int32) (t1 : Int32) (t2 : Int32) (H : Heap) (locs : List Loc) (ls : Array Slot), PB_goOnce_42 bo_floor post bo_boxes bo_person lo_kept lo_moves lo_pushed lo_end aMA v2 t1 t2 → va_P G.1 gCl [cPB hPB hTX pb_textLength hPI hBO hLO hMT hSE, cBO hBO bo_width bo_height bo_floor bo_goals bo_live bo_boxes bo_person hBS bo_liveBesideInRow bo_liveBesideInColumn, cLO hLO lo_kept lo_moves lo_pushed hMA lo_end, cI G hMA 500 aMA] H → va_D A [cPB hPB hTX pb_textLength hPI hBO hLO hMT hSE, cBO hBO bo_width bo_height bo_floor bo_goals bo_live bo_boxes bo_person hBS bo_liveBesideInRow bo_liveBesideInColumn, cLO hLO lo_kept lo_moves lo_pushed hMA lo_end, cI G hMA 500 aMA] → va_S A s.heap H locs → lv_has ls 3 [(0, .ref hPB), (2, .int v2)] → W p l e rm_PB_goOnce s m args below meth c H locs 0 0 (MQ below (gQi G (fun (r : Int32) (u : Int64 × Int64 × Int32 × Int32 × Int32 × Int32 × (Nat → Int32)) => post r u.1 u.2.1 u.2.2.1 u.2.2.2.1 u.2.2.2.2.1 u.2.2.2.2.2.1 u.2.2.2.2.2.2) (fun (u : Int64 × Int64 × Int32 × Int32 × Int32 × Int32 × (Nat → Int32)) => [cPB hPB hTX pb_textLength hPI hBO hLO hMT hSE, cBO hBO bo_width bo_height bo_floor bo_goals bo_live u.1 u.2.1 hBS bo_liveBesideInRow bo_liveBesideInColumn, cLO hLO u.2.2.1 u.2.2.2.1 u.2.2.2.2.1 hMA u.2.2.2.2.2.1, cI G hMA 500 u.2.2.2.2.2.2]) A) args s 0 0 A) (F0 m 42 ls [.int t2, .int t1, .ref hLO]) := by
  intro bo_boxes bo_person lo_kept lo_moves lo_pushed lo_end aMA v2 t1 t2 H locs ls h hP hD hS hl
  unfold PB_goOnce_42 at h
  refine g_cv (wr := [cPB hPB hTX pb_textLength hPI hBO hLO hMT hSE, cBO hBO bo_width bo_height bo_floor bo_goals bo_live bo_boxes bo_person hBS bo_liveBesideInRow bo_liveBesideInColumn]) X [2, 3] [0, 1] (g_rV (As := [.int t1, .int t2]) (rest := []) X (c_LO_add l G hLO hMA lo_kept lo_moves lo_pushed lo_end aMA t1 t2 _ h _) lk_X5_226 rfl rfl ⟨Nat.le_of_ble_eq_true rfl, Nat.le_of_ble_eq_true rfl⟩ hP hD hS [2, 3] rfl rfl 2 1 rfl rfl rfl hl.1 rfl (Nat.le_of_ble_eq_true rfl) dX5_goOnce_42 ⟨Nat.le_of_ble_eq_true rfl, Nat.le_of_ble_eq_true rfl⟩) hP hD hS rfl rfl rfl (by decide) (fun u H locs h hP hD hS => ?_)
  obtain ⟨lo_kept_1, lo_moves_2, lo_pushed_3, lo_end_4, aMA_5⟩ := u
  try dsimp only at h
  replace hP := hP.sub (ws' := [cPB hPB hTX pb_textLength hPI hBO hLO hMT hSE, cBO hBO bo_width bo_height bo_floor bo_goals bo_live bo_boxes bo_person hBS bo_liveBesideInRow bo_liveBesideInColumn, cLO hLO lo_kept_1 lo_moves_2 lo_pushed_3 hMA lo_end_4, cI G hMA 500 aMA_5]) [0, 1, 2, 3] rfl
  replace hD := hD.sub (ws' := [cPB hPB hTX pb_textLength hPI hBO hLO hMT hSE, cBO hBO bo_width bo_height bo_floor bo_goals bo_live bo_boxes bo_person hBS bo_liveBesideInRow bo_liveBesideInColumn, cLO hLO lo_kept_1 lo_moves_2 lo_pushed_3 hMA lo_end_4, cI G hMA 500 aMA_5]) [0, 1, 2, 3] rfl rfl
  refine lv_iload_n X.1 X.2.1 dX5_goOnce_45 rfl (lv_at hl 1 rfl) ?_
  exact g_iret X (bo_boxes, bo_person, lo_kept_1, lo_moves_2, lo_pushed_3, lo_end_4, aMA_5) h hP hD hS dX5_goOnce_46
set_option maxHeartbeats 4000000 in
set_option maxRecDepth 100000 in
theorem s_PB_goOnce_22 {p : Program} {l : Launch} {e : Env} {s : State} {m : MethodId} {args : Array Value} {below : List Frame} {meth : Method} {c : Code} {G : gEnv} {A : Nat → Prop} {hPB : Nat} {hTX : Nat} {hPI : Nat} {hBO : Nat} {hBS : Nat} {hLO : Nat} {hMA : Nat} {hMT : Nat} {hSE : Nat} {pb_textLength : Int32} {bo_width : Int32} {bo_height : Int32} {bo_goals : Int64} {bo_live : Int64} {bo_liveBesideInRow : Int64} {bo_liveBesideInColumn : Int64} {bo_floor : Int64} {post : Int32 → Int64 → Int64 → Int32 → Int32 → Int32 → Int32 → (Nat → Int32) → Prop} (X : gX p m meth c cX5_goOnce 3 RX5 (some .int) s args G A)  : ∀ (bo_boxes : Int64) (bo_person : Int64) (lo_kept : Int32) (lo_moves : Int32) (lo_pushed : Int32) (lo_end : Int32) (aMA : (Nat → Int32)) (v1 : Int32) (t0 : Int32) (H : Heap) (locs : List Loc) (ls : Array Slot), PB_goOnce_22 bo_floor post bo_boxes bo_person lo_kept lo_moves lo_pushed lo_end aMA v1 t0 → va_P G.1 gCl [cPB hPB hTX pb_textLength hPI hBO hLO hMT hSE, cBO hBO bo_width bo_height bo_floor bo_goals bo_live bo_boxes bo_person hBS bo_liveBesideInRow bo_liveBesideInColumn, cLO hLO lo_kept lo_moves lo_pushed hMA lo_end, cI G hMA 500 aMA] H → va_D A [cPB hPB hTX pb_textLength hPI hBO hLO hMT hSE, cBO hBO bo_width bo_height bo_floor bo_goals bo_live bo_boxes bo_person hBS bo_liveBesideInRow bo_liveBesideInColumn, cLO hLO lo_kept lo_moves lo_pushed hMA lo_end, cI G hMA 500 aMA] → va_S A s.heap H locs → lv_has ls 3 [(0, .ref hPB), (1, .int v1)] → W p l e rm_PB_goOnce s m args below meth c H locs 0 0 (MQ below (gQi G (fun (r : Int32) (u : Int64 × Int64 × Int32 × Int32 × Int32 × Int32 × (Nat → Int32)) => post r u.1 u.2.1 u.2.2.1 u.2.2.2.1 u.2.2.2.2.1 u.2.2.2.2.2.1 u.2.2.2.2.2.2) (fun (u : Int64 × Int64 × Int32 × Int32 × Int32 × Int32 × (Nat → Int32)) => [cPB hPB hTX pb_textLength hPI hBO hLO hMT hSE, cBO hBO bo_width bo_height bo_floor bo_goals bo_live u.1 u.2.1 hBS bo_liveBesideInRow bo_liveBesideInColumn, cLO hLO u.2.2.1 u.2.2.2.1 u.2.2.2.2.1 hMA u.2.2.2.2.2.1, cI G hMA 500 u.2.2.2.2.2.2]) A) args s 0 0 A) (F0 m 22 ls [.int t0]) := by
  intro bo_boxes bo_person lo_kept lo_moves lo_pushed lo_end aMA v1 t0 H locs ls h hP hD hS hl
  unfold PB_goOnce_22 at h
  refine lv_istore_n (lv' := [(2, .int t0), (0, .ref hPB), (1, .int v1)]) X.1 X.2.1 dX5_goOnce_22 rfl hl (by decide) rfl (fun ls hl => ?_)
  refine lv_iload_n X.1 X.2.1 dX5_goOnce_23 rfl (lv_at hl 0 rfl) ?_
  refine lv_if_eq (tgt := 45) X.1 X.2.1 dX5_goOnce_24 (by decide) (fun hc => ?_) (fun hc => ?_)
  · replace h := Eq.mp (if_pos hc) h
    refine lv_iload_n X.1 X.2.1 dX5_goOnce_45 rfl (lv_at hl 0 rfl) ?_
    exact g_iret X (bo_boxes, bo_person, lo_kept, lo_moves, lo_pushed, lo_end, aMA) h hP hD hS dX5_goOnce_46
  · replace h := Eq.mp (if_neg hc) h
    refine lv_aload_n X.1 X.2.1 dX5_goOnce_27 rfl (lv_at hl 1 rfl) ?_
    refine g_get X hP 0 5 4 (v := .ref hLO) rfl rfl inX5 (by decide) fl_X5_30 rfl dX5_goOnce_28 ?_
    refine lv_iload_n X.1 X.2.1 dX5_goOnce_31 rfl (lv_at hl 2 rfl) ?_
    refine lv_iload_n X.1 X.2.1 dX5_goOnce_32 rfl (lv_at hl 0 rfl) ?_
    refine lv_iconst (v := (2 : Int32)) X.1 X.2.1 dX5_goOnce_33 (by decide) ?_
    refine lv_icmp_ne (tgt := 41) X.1 X.2.1 dX5_goOnce_34 (by decide) (fun hc => ?_) (fun hc => ?_)
    · replace h := Eq.mp (if_neg hc) h
      refine lv_iconst (v := (0 : Int32)) X.1 X.2.1 dX5_goOnce_41 (by decide) ?_
      exact s_PB_goOnce_42 X  bo_boxes bo_person lo_kept lo_moves lo_pushed lo_end aMA t0 v1 (0 : Int32) _ _ _ h hP hD hS (lv_sub hl [1, 0] rfl)
    · replace h := Eq.mp (if_pos hc) h
      refine lv_iconst (v := (1 : Int32)) X.1 X.2.1 dX5_goOnce_37 (by decide) ?_
      refine lv_goto (tgt := 42) X.1 X.2.1 dX5_goOnce_38 (by decide) ?_
      exact s_PB_goOnce_42 X  bo_boxes bo_person lo_kept lo_moves lo_pushed lo_end aMA t0 v1 (1 : Int32) _ _ _ h hP hD hS (lv_sub hl [1, 0] rfl)
set_option maxHeartbeats 4000000 in
set_option maxRecDepth 100000 in
theorem c_PB_goOnce (l : Launch) (G : gEnv) (hPB : Nat) (hTX : Nat) (hPI : Nat) (hBO : Nat) (hBS : Nat) (hLO : Nat) (hMA : Nat) (hMT : Nat) (hSE : Nat) (pb_textLength : Int32) (bo_width : Int32) (bo_height : Int32) (bo_floor : Int64) (bo_goals : Int64) (bo_live : Int64) (bo_boxes : Int64) (bo_person : Int64) (bo_liveBesideInRow : Int64) (bo_liveBesideInColumn : Int64) (lo_kept : Int32) (lo_moves : Int32) (lo_pushed : Int32) (lo_end : Int32) (aMA : Nat → Int32) (v1 : Int32) (post : Int32 → Int64 → Int64 → Int32 → Int32 → Int32 → Int32 → (Nat → Int32) → Prop) (h : PB_goOnce bo_floor bo_boxes bo_person lo_kept lo_moves lo_pushed lo_end aMA v1 post) (sz : Nat) : Met l yX5_goOnce (Cond.code yX5_goOnce cX5_goOnce 3 (some .int) :: wAll) (rm_PB_goOnce) (gPc G [.ref hPB, .int v1] [cPB hPB hTX pb_textLength hPI hBO hLO hMT hSE, cBO hBO bo_width bo_height bo_floor bo_goals bo_live bo_boxes bo_person hBS bo_liveBesideInRow bo_liveBesideInColumn, cLO hLO lo_kept lo_moves lo_pushed hMA lo_end, cI G hMA 500 aMA] sz) (gQi G (fun (r : Int32) (u : Int64 × Int64 × Int32 × Int32 × Int32 × Int32 × (Nat → Int32)) => post r u.1 u.2.1 u.2.2.1 u.2.2.2.1 u.2.2.2.2.1 u.2.2.2.2.2.1 u.2.2.2.2.2.2) (fun (u : Int64 × Int64 × Int32 × Int32 × Int32 × Int32 × (Nat → Int32)) => [cPB hPB hTX pb_textLength hPI hBO hLO hMT hSE, cBO hBO bo_width bo_height bo_floor bo_goals bo_live u.1 u.2.1 hBS bo_liveBesideInRow bo_liveBesideInColumn, cLO hLO u.2.2.1 u.2.2.2.1 u.2.2.2.2.1 hMA u.2.2.2.2.2.1, cI G hMA 500 u.2.2.2.2.2.2]) (va_A [cPB hPB hTX pb_textLength hPI hBO hLO hMT hSE, cBO hBO bo_width bo_height bo_floor bo_goals bo_live bo_boxes bo_person hBS bo_liveBesideInRow bo_liveBesideInColumn, cLO hLO lo_kept lo_moves lo_pushed hMA lo_end, cI G hMA 500 aMA] sz)) 0 0 (va_A [cPB hPB hTX pb_textLength hPI hBO hLO hMT hSE, cBO hBO bo_width bo_height bo_floor bo_goals bo_live bo_boxes bo_person hBS bo_liveBesideInRow bo_liveBesideInColumn, cLO hLO lo_kept lo_moves lo_pushed hMA lo_end, cI G hMA 500 aMA] sz) := by
  refine Met.ofW (cc := cX5_goOnce) (maxL := 3) (ret := (some .int)) (by decide) rfl ?_
  intro p e s m args below meth c s₁ B hml hv
  obtain ⟨rfl, hsz, hP, hK, hD0⟩ := hv
  subst hsz
  have X := gX.ofB (ws := [cPB hPB hTX pb_textLength hPI hBO hLO hMT hSE, cBO hBO bo_width bo_height bo_floor bo_goals bo_live bo_boxes bo_person hBS bo_liveBesideInRow bo_liveBesideInColumn, cLO hLO lo_kept lo_moves lo_pushed hMA lo_end, cI G hMA 500 aMA]) B hml hK hD0
  have hD := hD0.self (sz := s.heap.size)
  generalize hAe : va_A [cPB hPB hTX pb_textLength hPI hBO hLO hMT hSE, cBO hBO bo_width bo_height bo_floor bo_goals bo_live bo_boxes bo_person hBS bo_liveBesideInRow bo_liveBesideInColumn, cLO hLO lo_kept lo_moves lo_pushed hMA lo_end, cI G hMA 500 aMA] s.heap.size = A at X hD ⊢
  have hS : va_S A s.heap s.heap [] := va_S.rf
  have hl := lv_entry ([.ref hPB, .int v1]) (n := 3) (Nat.le_of_ble_eq_true rfl)
  rw [lg_entry_eq]
  generalize (lg_sl ([.ref hPB, .int v1]) ++ List.replicate (3 - (lg_sl ([.ref hPB, .int v1])).length) Slot.unset).toArray = ls at hl ⊢
  have hl : lv_has ls 3 [(0, .ref hPB), (1, .int v1)] := hl
  dsimp only [headSpec]
  unfold PB_goOnce at h
  refine lv_aload_n X.1 X.2.1 dX5_goOnce_0 rfl (lv_at hl 0 rfl) ?_
  refine g_get X hP 0 5 3 (v := .ref hBO) rfl rfl inX5 (by decide) fl_X5_23 rfl dX5_goOnce_1 ?_
  refine g_ci (wr := [cPB hPB hTX pb_textLength hPI hBO hLO hMT hSE, cLO hLO lo_kept lo_moves lo_pushed hMA lo_end, cI G hMA 500 aMA]) X [1] [0, 2, 3] (g_rV (As := []) (rest := []) X (c_BO_isThere l G hBO hBS bo_width bo_height bo_floor bo_goals bo_live bo_boxes bo_person bo_liveBesideInRow bo_liveBesideInColumn _ h _) lk_X5_95 rfl rfl ⟨Nat.le_of_ble_eq_true rfl, Nat.le_of_ble_eq_true rfl⟩ hP hD hS [1] rfl rfl 1 0 rfl rfl rfl hl.1 rfl (Nat.le_of_ble_eq_true rfl) dX5_goOnce_4 ⟨Nat.le_of_ble_eq_true rfl, Nat.le_of_ble_eq_true rfl⟩) hP hD hS rfl rfl rfl (by decide) (fun r_1 u H locs h hP hD hS => ?_)
  try dsimp only at h
  replace hP := hP.sub (ws' := [cPB hPB hTX pb_textLength hPI hBO hLO hMT hSE, cBO hBO bo_width bo_height bo_floor bo_goals bo_live bo_boxes bo_person hBS bo_liveBesideInRow bo_liveBesideInColumn, cLO hLO lo_kept lo_moves lo_pushed hMA lo_end, cI G hMA 500 aMA]) [0, 3, 1, 2] rfl
  replace hD := hD.sub (ws' := [cPB hPB hTX pb_textLength hPI hBO hLO hMT hSE, cBO hBO bo_width bo_height bo_floor bo_goals bo_live bo_boxes bo_person hBS bo_liveBesideInRow bo_liveBesideInColumn, cLO hLO lo_kept lo_moves lo_pushed hMA lo_end, cI G hMA 500 aMA]) [0, 3, 1, 2] rfl rfl
  refine lv_if_eq (tgt := 21) X.1 X.2.1 dX5_goOnce_7 (by decide) (fun hc => ?_) (fun hc => ?_)
  · replace h := Eq.mp (if_pos hc) h
    refine lv_iconst (v := (0 : Int32)) X.1 X.2.1 dX5_goOnce_21 (by decide) ?_
    exact s_PB_goOnce_22 X  bo_boxes bo_person lo_kept lo_moves lo_pushed lo_end aMA v1 (0 : Int32) _ _ _ h hP hD hS (lv_sub hl [0, 1] rfl)
  · replace h := Eq.mp (if_neg hc) h
    refine lv_aload_n X.1 X.2.1 dX5_goOnce_10 rfl (lv_at hl 0 rfl) ?_
    refine g_get X hP 0 5 3 (v := .ref hBO) rfl rfl inX5 (by decide) fl_X5_23 rfl dX5_goOnce_11 ?_
    refine lv_iload_n X.1 X.2.1 dX5_goOnce_14 rfl (lv_at hl 1 rfl) ?_
    refine g_ci (wr := [cPB hPB hTX pb_textLength hPI hBO hLO hMT hSE, cLO hLO lo_kept lo_moves lo_pushed hMA lo_end, cI G hMA 500 aMA]) X [1] [0, 2, 3] (g_rV (As := [.int v1]) (rest := []) X (c_BO_go l G hBO hBS bo_width bo_height bo_floor bo_goals bo_live bo_boxes bo_person bo_liveBesideInRow bo_liveBesideInColumn v1 _ h _) lk_X5_223 rfl rfl ⟨Nat.le_of_ble_eq_true rfl, Nat.le_of_ble_eq_true rfl⟩ hP hD hS [1] rfl rfl 1 0 rfl rfl rfl hl.1 rfl (Nat.le_of_ble_eq_true rfl) dX5_goOnce_15 ⟨Nat.le_of_ble_eq_true rfl, Nat.le_of_ble_eq_true rfl⟩) hP hD hS rfl rfl rfl (by decide) (fun r_2 u H locs h hP hD hS => ?_)
    obtain ⟨bo_boxes_3, bo_person_4⟩ := u
    try dsimp only at h
    replace hP := hP.sub (ws' := [cPB hPB hTX pb_textLength hPI hBO hLO hMT hSE, cBO hBO bo_width bo_height bo_floor bo_goals bo_live bo_boxes_3 bo_person_4 hBS bo_liveBesideInRow bo_liveBesideInColumn, cLO hLO lo_kept lo_moves lo_pushed hMA lo_end, cI G hMA 500 aMA]) [0, 3, 1, 2] rfl
    replace hD := hD.sub (ws' := [cPB hPB hTX pb_textLength hPI hBO hLO hMT hSE, cBO hBO bo_width bo_height bo_floor bo_goals bo_live bo_boxes_3 bo_person_4 hBS bo_liveBesideInRow bo_liveBesideInColumn, cLO hLO lo_kept lo_moves lo_pushed hMA lo_end, cI G hMA 500 aMA]) [0, 3, 1, 2] rfl rfl
    refine lv_goto (tgt := 22) X.1 X.2.1 dX5_goOnce_18 (by decide) ?_
    exact s_PB_goOnce_22 X  bo_boxes_3 bo_person_4 lo_kept lo_moves lo_pushed lo_end aMA v1 r_2 _ _ _ h hP hD hS (lv_sub hl [0, 1] rfl)
abbrev rm_PB_goOften : Room := { frames := 3, cells := 0, slots := 0, locals := 69 }
set_option maxHeartbeats 4000000 in
set_option maxRecDepth 100000 in
theorem s_PB_goOften_2 {p : Program} {l : Launch} {e : Env} {s : State} {m : MethodId} {args : Array Value} {below : List Frame} {meth : Method} {c : Code} {G : gEnv} {A : Nat → Prop} {hPB : Nat} {hTX : Nat} {hPI : Nat} {hBO : Nat} {hBS : Nat} {hLO : Nat} {hMA : Nat} {hMT : Nat} {hSE : Nat} {pb_textLength : Int32} {bo_width : Int32} {bo_height : Int32} {bo_goals : Int64} {bo_live : Int64} {bo_liveBesideInRow : Int64} {bo_liveBesideInColumn : Int64} {bo_floor : Int64} {post : Int32 → Int64 → Int64 → Int32 → Int32 → Int32 → Int32 → (Nat → Int32) → Prop} (X : gX p m meth c cX5_goOften 4 RX5 (some .int) s args G A)  : ∀ (n : Nat) (bo_boxes : Int64) (bo_person : Int64) (lo_kept : Int32) (lo_moves : Int32) (lo_pushed : Int32) (lo_end : Int32) (aMA : (Nat → Int32)) (v1 : Int32) (v2 : Int32) (v3 : Int32) (H : Heap) (locs : List Loc) (ls : Array Slot), PB_goOften_2 bo_floor post n bo_boxes bo_person lo_kept lo_moves lo_pushed lo_end aMA v1 v2 v3 → va_P G.1 gCl [cPB hPB hTX pb_textLength hPI hBO hLO hMT hSE, cBO hBO bo_width bo_height bo_floor bo_goals bo_live bo_boxes bo_person hBS bo_liveBesideInRow bo_liveBesideInColumn, cLO hLO lo_kept lo_moves lo_pushed hMA lo_end, cI G hMA 500 aMA] H → va_D A [cPB hPB hTX pb_textLength hPI hBO hLO hMT hSE, cBO hBO bo_width bo_height bo_floor bo_goals bo_live bo_boxes bo_person hBS bo_liveBesideInRow bo_liveBesideInColumn, cLO hLO lo_kept lo_moves lo_pushed hMA lo_end, cI G hMA 500 aMA] → va_S A s.heap H locs → lv_has ls 4 [(0, .ref hPB), (1, .int v1), (2, .int v2), (3, .int v3)] → W p l e rm_PB_goOften s m args below meth c H locs 0 0 (MQ below (gQi G (fun (r : Int32) (u : Int64 × Int64 × Int32 × Int32 × Int32 × Int32 × (Nat → Int32)) => post r u.1 u.2.1 u.2.2.1 u.2.2.2.1 u.2.2.2.2.1 u.2.2.2.2.2.1 u.2.2.2.2.2.2) (fun (u : Int64 × Int64 × Int32 × Int32 × Int32 × Int32 × (Nat → Int32)) => [cPB hPB hTX pb_textLength hPI hBO hLO hMT hSE, cBO hBO bo_width bo_height bo_floor bo_goals bo_live u.1 u.2.1 hBS bo_liveBesideInRow bo_liveBesideInColumn, cLO hLO u.2.2.1 u.2.2.2.1 u.2.2.2.2.1 hMA u.2.2.2.2.2.1, cI G hMA 500 u.2.2.2.2.2.2]) A) args s 0 0 A) (F0 m 2 ls []) := by
  intro n
  induction n with
  | zero => intro bo_boxes bo_person lo_kept lo_moves lo_pushed lo_end aMA v1 v2 v3 H locs ls h _ _ _ _; exact h.elim
  | succ n ih =>
    intro bo_boxes bo_person lo_kept lo_moves lo_pushed lo_end aMA v1 v2 v3 H locs ls h hP hD hS hl
    unfold PB_goOften_2 at h
    refine lv_iload_n X.1 X.2.1 dX5_goOften_2 rfl (lv_at hl 3 rfl) ?_
    refine lv_iload_n X.1 X.2.1 dX5_goOften_3 rfl (lv_at hl 2 rfl) ?_
    refine lv_icmp_ge (tgt := 27) X.1 X.2.1 dX5_goOften_4 (by decide) (fun hc => ?_) (fun hc => ?_)
    · replace h := Eq.mp (if_pos hc) h
      refine lv_iload_n X.1 X.2.1 dX5_goOften_27 rfl (lv_at hl 2 rfl) ?_
      exact g_iret X (bo_boxes, bo_person, lo_kept, lo_moves, lo_pushed, lo_end, aMA) h hP hD hS dX5_goOften_28
    · replace h := Eq.mp (if_neg hc) h
      refine lv_iload_n X.1 X.2.1 dX5_goOften_7 rfl (lv_at hl 1 rfl) ?_
      refine lv_if_lt (tgt := 19) X.1 X.2.1 dX5_goOften_8 (by decide) (fun hc => ?_) (fun hc => ?_)
      · replace h := Eq.mp (if_pos hc) h
        refine lv_iload_n X.1 X.2.1 dX5_goOften_19 rfl (lv_at hl 3 rfl) ?_
        exact g_iret X (bo_boxes, bo_person, lo_kept, lo_moves, lo_pushed, lo_end, aMA) h hP hD hS dX5_goOften_20
      · replace h := Eq.mp (if_neg hc) h
        refine lv_aload_n X.1 X.2.1 dX5_goOften_11 rfl (lv_at hl 0 rfl) ?_
        refine lv_iload_n X.1 X.2.1 dX5_goOften_12 rfl (lv_at hl 1 rfl) ?_
        refine g_ci (wr := []) X [0, 1, 2, 3] [] (g_rV (As := [.int v1]) (rest := []) X (c_PB_goOnce l G hPB hTX hPI hBO hBS hLO hMA hMT hSE pb_textLength bo_width bo_height bo_floor bo_goals bo_live bo_boxes bo_person bo_liveBesideInRow bo_liveBesideInColumn lo_kept lo_moves lo_pushed lo_end aMA v1 _ h _) lk_X5_110 rfl rfl ⟨Nat.le_of_ble_eq_true rfl, Nat.le_of_ble_eq_true rfl⟩ hP hD hS [0, 1, 2, 3] rfl rfl 0 5 rfl rfl rfl hl.1 rfl (Nat.le_of_ble_eq_true rfl) dX5_goOften_13 ⟨Nat.le_of_ble_eq_true rfl, Nat.le_of_ble_eq_true rfl⟩) hP hD hS rfl rfl rfl (by decide) (fun r_1 u H locs h hP hD hS => ?_)
        obtain ⟨bo_boxes_2, bo_person_3, lo_kept_4, lo_moves_5, lo_pushed_6, lo_end_7, aMA_8⟩ := u
        try dsimp only at h
        replace hP := hP.sub (ws' := [cPB hPB hTX pb_textLength hPI hBO hLO hMT hSE, cBO hBO bo_width bo_height bo_floor bo_goals bo_live bo_boxes_2 bo_person_3 hBS bo_liveBesideInRow bo_liveBesideInColumn, cLO hLO lo_kept_4 lo_moves_5 lo_pushed_6 hMA lo_end_7, cI G hMA 500 aMA_8]) [0, 1, 2, 3] rfl
        replace hD := hD.sub (ws' := [cPB hPB hTX pb_textLength hPI hBO hLO hMT hSE, cBO hBO bo_width bo_height bo_floor bo_goals bo_live bo_boxes_2 bo_person_3 hBS bo_liveBesideInRow bo_liveBesideInColumn, cLO hLO lo_kept_4 lo_moves_5 lo_pushed_6 hMA lo_end_7, cI G hMA 500 aMA_8]) [0, 1, 2, 3] rfl rfl
        refine lv_if_ne (tgt := 21) X.1 X.2.1 dX5_goOften_16 (by decide) (fun hc => ?_) (fun hc => ?_)
        · replace h := Eq.mp (if_neg hc) h
          refine lv_iinc (v := (v3 + (1 : Int32))) (lv' := [(3, .int (v3 + (1 : Int32))), (0, .ref hPB), (1, .int v1), (2, .int v2)]) X.1 X.2.1 dX5_goOften_21 hl (k := 3) rfl rfl (by decide) rfl (fun ls hl => ?_)
          refine lv_goto (tgt := 2) X.1 X.2.1 dX5_goOften_24 (by decide) ?_
          exact ih bo_boxes_2 bo_person_3 lo_kept_4 lo_moves_5 lo_pushed_6 lo_end_7 aMA_8 v1 v2 (v3 + (1 : Int32)) _ _ _ h hP hD hS (lv_sub hl [1, 2, 3, 0] rfl)
        · replace h := Eq.mp (if_pos hc) h
          refine lv_iload_n X.1 X.2.1 dX5_goOften_19 rfl (lv_at hl 3 rfl) ?_
          exact g_iret X (bo_boxes_2, bo_person_3, lo_kept_4, lo_moves_5, lo_pushed_6, lo_end_7, aMA_8) h hP hD hS dX5_goOften_20
set_option maxHeartbeats 4000000 in
set_option maxRecDepth 100000 in
theorem c_PB_goOften (l : Launch) (G : gEnv) (hPB : Nat) (hTX : Nat) (hPI : Nat) (hBO : Nat) (hBS : Nat) (hLO : Nat) (hMA : Nat) (hMT : Nat) (hSE : Nat) (pb_textLength : Int32) (bo_width : Int32) (bo_height : Int32) (bo_floor : Int64) (bo_goals : Int64) (bo_live : Int64) (bo_boxes : Int64) (bo_person : Int64) (bo_liveBesideInRow : Int64) (bo_liveBesideInColumn : Int64) (lo_kept : Int32) (lo_moves : Int32) (lo_pushed : Int32) (lo_end : Int32) (aMA : Nat → Int32) (v1 : Int32) (v2 : Int32) (post : Int32 → Int64 → Int64 → Int32 → Int32 → Int32 → Int32 → (Nat → Int32) → Prop) (h : PB_goOften bo_floor bo_boxes bo_person lo_kept lo_moves lo_pushed lo_end aMA v1 v2 post) (sz : Nat) : Met l yX5_goOften (Cond.code yX5_goOften cX5_goOften 4 (some .int) :: wAll) (rm_PB_goOften) (gPc G [.ref hPB, .int v1, .int v2] [cPB hPB hTX pb_textLength hPI hBO hLO hMT hSE, cBO hBO bo_width bo_height bo_floor bo_goals bo_live bo_boxes bo_person hBS bo_liveBesideInRow bo_liveBesideInColumn, cLO hLO lo_kept lo_moves lo_pushed hMA lo_end, cI G hMA 500 aMA] sz) (gQi G (fun (r : Int32) (u : Int64 × Int64 × Int32 × Int32 × Int32 × Int32 × (Nat → Int32)) => post r u.1 u.2.1 u.2.2.1 u.2.2.2.1 u.2.2.2.2.1 u.2.2.2.2.2.1 u.2.2.2.2.2.2) (fun (u : Int64 × Int64 × Int32 × Int32 × Int32 × Int32 × (Nat → Int32)) => [cPB hPB hTX pb_textLength hPI hBO hLO hMT hSE, cBO hBO bo_width bo_height bo_floor bo_goals bo_live u.1 u.2.1 hBS bo_liveBesideInRow bo_liveBesideInColumn, cLO hLO u.2.2.1 u.2.2.2.1 u.2.2.2.2.1 hMA u.2.2.2.2.2.1, cI G hMA 500 u.2.2.2.2.2.2]) (va_A [cPB hPB hTX pb_textLength hPI hBO hLO hMT hSE, cBO hBO bo_width bo_height bo_floor bo_goals bo_live bo_boxes bo_person hBS bo_liveBesideInRow bo_liveBesideInColumn, cLO hLO lo_kept lo_moves lo_pushed hMA lo_end, cI G hMA 500 aMA] sz)) 0 0 (va_A [cPB hPB hTX pb_textLength hPI hBO hLO hMT hSE, cBO hBO bo_width bo_height bo_floor bo_goals bo_live bo_boxes bo_person hBS bo_liveBesideInRow bo_liveBesideInColumn, cLO hLO lo_kept lo_moves lo_pushed hMA lo_end, cI G hMA 500 aMA] sz) := by
  refine Met.ofW (cc := cX5_goOften) (maxL := 4) (ret := (some .int)) (by decide) rfl ?_
  intro p e s m args below meth c s₁ B hml hv
  obtain ⟨rfl, hsz, hP, hK, hD0⟩ := hv
  subst hsz
  have X := gX.ofB (ws := [cPB hPB hTX pb_textLength hPI hBO hLO hMT hSE, cBO hBO bo_width bo_height bo_floor bo_goals bo_live bo_boxes bo_person hBS bo_liveBesideInRow bo_liveBesideInColumn, cLO hLO lo_kept lo_moves lo_pushed hMA lo_end, cI G hMA 500 aMA]) B hml hK hD0
  have hD := hD0.self (sz := s.heap.size)
  generalize hAe : va_A [cPB hPB hTX pb_textLength hPI hBO hLO hMT hSE, cBO hBO bo_width bo_height bo_floor bo_goals bo_live bo_boxes bo_person hBS bo_liveBesideInRow bo_liveBesideInColumn, cLO hLO lo_kept lo_moves lo_pushed hMA lo_end, cI G hMA 500 aMA] s.heap.size = A at X hD ⊢
  have hS : va_S A s.heap s.heap [] := va_S.rf
  have hl := lv_entry ([.ref hPB, .int v1, .int v2]) (n := 4) (Nat.le_of_ble_eq_true rfl)
  rw [lg_entry_eq]
  generalize (lg_sl ([.ref hPB, .int v1, .int v2]) ++ List.replicate (4 - (lg_sl ([.ref hPB, .int v1, .int v2])).length) Slot.unset).toArray = ls at hl ⊢
  have hl : lv_has ls 4 [(0, .ref hPB), (1, .int v1), (2, .int v2)] := hl
  dsimp only [headSpec]
  unfold PB_goOften at h
  refine lv_iconst (v := (0 : Int32)) X.1 X.2.1 dX5_goOften_0 (by decide) ?_
  refine lv_istore_n (lv' := [(3, .int (0 : Int32)), (0, .ref hPB), (1, .int v1), (2, .int v2)]) X.1 X.2.1 dX5_goOften_1 rfl hl (by decide) rfl (fun ls hl => ?_)
  obtain ⟨n', h⟩ := h
  exact s_PB_goOften_2 X  n' bo_boxes bo_person lo_kept lo_moves lo_pushed lo_end aMA v1 v2 (0 : Int32) _ _ _ h hP hD hS (lv_sub hl [1, 2, 3, 0] rfl)
abbrev rm_PB_row : Room := { frames := 4, cells := 0, slots := 0, locals := 92 }
set_option maxHeartbeats 4000000 in
set_option maxRecDepth 100000 in
theorem s_PB_row_54 {p : Program} {l : Launch} {e : Env} {s : State} {m : MethodId} {args : Array Value} {below : List Frame} {meth : Method} {c : Code} {G : gEnv} {A : Nat → Prop} {hPB : Nat} {hTX : Nat} {hPI : Nat} {hBO : Nat} {hBS : Nat} {hLO : Nat} {hMA : Nat} {hMT : Nat} {hSE : Nat} {bo_width : Int32} {bo_height : Int32} {bo_goals : Int64} {bo_live : Int64} {bo_liveBesideInRow : Int64} {bo_liveBesideInColumn : Int64} {aTX : Nat → Int32} {bo_floor : Int64} {k12 : Int32 → Int64 → Int64 → Int32 → Int32 → Int32 → Int32 → (Nat → Int32) → Int32 → Int32 → Int32 → Int32 → Prop} {post : Int32 → Int32 → Int64 → Int64 → Int32 → Int32 → Int32 → Int32 → (Nat → Int32) → Prop} (X : gX p m meth c cX5_row 8 RX5 (some .int) s args G A) (hk12 : ∀ (pb_textLength' : Int32) (bo_boxes' : Int64) (bo_person' : Int64) (lo_kept' : Int32) (lo_moves' : Int32) (lo_pushed' : Int32) (lo_end' : Int32) (aMA' : (Nat → Int32)) (v1' : Int32) (v2' : Int32) (v3' : Int32) (v4' : Int32) (H : Heap) (locs : List Loc) (ls : Array Slot), k12 pb_textLength' bo_boxes' bo_person' lo_kept' lo_moves' lo_pushed' lo_end' aMA' v1' v2' v3' v4' → va_P G.1 gCl [cPB hPB hTX pb_textLength' hPI hBO hLO hMT hSE, cI G hTX 160 aTX, cBO hBO bo_width bo_height bo_floor bo_goals bo_live bo_boxes' bo_person' hBS bo_liveBesideInRow bo_liveBesideInColumn, cLO hLO lo_kept' lo_moves' lo_pushed' hMA lo_end', cI G hMA 500 aMA'] H → va_D A [cPB hPB hTX pb_textLength' hPI hBO hLO hMT hSE, cI G hTX 160 aTX, cBO hBO bo_width bo_height bo_floor bo_goals bo_live bo_boxes' bo_person' hBS bo_liveBesideInRow bo_liveBesideInColumn, cLO hLO lo_kept' lo_moves' lo_pushed' hMA lo_end', cI G hMA 500 aMA'] → va_S A s.heap H locs → lv_has ls 8 [(0, .ref hPB), (1, .int v1'), (2, .int v2'), (3, .int v3'), (4, .int v4')] → W p l e rm_PB_row s m args below meth c H locs 0 0 (MQ below (gQi G (fun (r : Int32) (u : Int32 × Int64 × Int64 × Int32 × Int32 × Int32 × Int32 × (Nat → Int32)) => post r u.1 u.2.1 u.2.2.1 u.2.2.2.1 u.2.2.2.2.1 u.2.2.2.2.2.1 u.2.2.2.2.2.2.1 u.2.2.2.2.2.2.2) (fun (u : Int32 × Int64 × Int64 × Int32 × Int32 × Int32 × Int32 × (Nat → Int32)) => [cPB hPB hTX u.1 hPI hBO hLO hMT hSE, cI G hTX 160 aTX, cBO hBO bo_width bo_height bo_floor bo_goals bo_live u.2.1 u.2.2.1 hBS bo_liveBesideInRow bo_liveBesideInColumn, cLO hLO u.2.2.2.1 u.2.2.2.2.1 u.2.2.2.2.2.1 hMA u.2.2.2.2.2.2.1, cI G hMA 500 u.2.2.2.2.2.2.2]) A) args s 0 0 A) (F0 m 12 ls [])) : ∀ (pb_textLength : Int32) (bo_boxes : Int64) (bo_person : Int64) (lo_kept : Int32) (lo_moves : Int32) (lo_pushed : Int32) (lo_end : Int32) (aMA : (Nat → Int32)) (v1 : Int32) (v2 : Int32) (v3 : Int32) (v4 : Int32) (v5 : Int32) (H : Heap) (locs : List Loc) (ls : Array Slot), PB_row_54 aTX bo_floor k12 post pb_textLength bo_boxes bo_person lo_kept lo_moves lo_pushed lo_end aMA v1 v2 v3 v4 v5 → va_P G.1 gCl [cPB hPB hTX pb_textLength hPI hBO hLO hMT hSE, cI G hTX 160 aTX, cBO hBO bo_width bo_height bo_floor bo_goals bo_live bo_boxes bo_person hBS bo_liveBesideInRow bo_liveBesideInColumn, cLO hLO lo_kept lo_moves lo_pushed hMA lo_end, cI G hMA 500 aMA] H → va_D A [cPB hPB hTX pb_textLength hPI hBO hLO hMT hSE, cI G hTX 160 aTX, cBO hBO bo_width bo_height bo_floor bo_goals bo_live bo_boxes bo_person hBS bo_liveBesideInRow bo_liveBesideInColumn, cLO hLO lo_kept lo_moves lo_pushed hMA lo_end, cI G hMA 500 aMA] → va_S A s.heap H locs → lv_has ls 8 [(0, .ref hPB), (1, .int v1), (2, .int v2), (3, .int v3), (4, .int v4), (5, .int v5)] → W p l e rm_PB_row s m args below meth c H locs 0 0 (MQ below (gQi G (fun (r : Int32) (u : Int32 × Int64 × Int64 × Int32 × Int32 × Int32 × Int32 × (Nat → Int32)) => post r u.1 u.2.1 u.2.2.1 u.2.2.2.1 u.2.2.2.2.1 u.2.2.2.2.2.1 u.2.2.2.2.2.2.1 u.2.2.2.2.2.2.2) (fun (u : Int32 × Int64 × Int64 × Int32 × Int32 × Int32 × Int32 × (Nat → Int32)) => [cPB hPB hTX u.1 hPI hBO hLO hMT hSE, cI G hTX 160 aTX, cBO hBO bo_width bo_height bo_floor bo_goals bo_live u.2.1 u.2.2.1 hBS bo_liveBesideInRow bo_liveBesideInColumn, cLO hLO u.2.2.2.1 u.2.2.2.2.1 u.2.2.2.2.2.1 hMA u.2.2.2.2.2.2.1, cI G hMA 500 u.2.2.2.2.2.2.2]) A) args s 0 0 A) (F0 m 54 ls []) := by
  intro pb_textLength bo_boxes bo_person lo_kept lo_moves lo_pushed lo_end aMA v1 v2 v3 v4 v5 H locs ls h hP hD hS hl
  unfold PB_row_54 at h
  refine lv_iload_n X.1 X.2.1 dX5_row_54 rfl (lv_at hl 3 rfl) ?_
  refine lv_iconst (v := (1 : Int32)) X.1 X.2.1 dX5_row_55 (by decide) ?_
  refine g_mmax X hl.1 mt_X5_82 (Nat.le_of_ble_eq_true rfl) (Nat.le_of_ble_eq_true rfl) (Nat.le_of_ble_eq_true rfl) (Nat.le_of_ble_eq_true rfl) dX5_row_56 ?_
  refine lv_topi (fun v6_1 e_v6_1 => ?_)
  replace h := h v6_1 e_v6_1
  refine lv_istore (lv' := [(6, .int v6_1), (0, .ref hPB), (1, .int v1), (2, .int v2), (3, .int v3), (4, .int v4), (5, .int v5)]) X.1 X.2.1 dX5_row_59 hl (by decide) rfl (fun ls hl => ?_)
  refine lv_aload_n X.1 X.2.1 dX5_row_61 rfl (lv_at hl 1 rfl) ?_
  refine lv_iload X.1 X.2.1 dX5_row_62 (lv_at hl 6 rfl) ?_
  refine g_ci (wr := [cPB hPB hTX pb_textLength hPI hBO hLO hMT hSE, cI G hTX 160 aTX, cBO hBO bo_width bo_height bo_floor bo_goals bo_live bo_boxes bo_person hBS bo_liveBesideInRow bo_liveBesideInColumn, cLO hLO lo_kept lo_moves lo_pushed hMA lo_end, cI G hMA 500 aMA]) X [] [0, 1, 2, 3, 4] (g_rS (As := [.int v5]) (rest := [.ref hPB]) X (c_PB_wayOfLetter l G v5 _ h _) lk_X5_88 rfl rfl ⟨Nat.le_of_ble_eq_true rfl, Nat.le_of_ble_eq_true rfl⟩ hP hD hS [] rfl rfl rfl hl.1 rfl (Nat.le_of_ble_eq_true rfl) dX5_row_64 ⟨Nat.le_of_ble_eq_true rfl, Nat.le_of_ble_eq_true rfl⟩) hP hD hS rfl rfl rfl (by decide) (fun r_2 u H locs h hP hD hS => ?_)
  try dsimp only at h
  replace hP := hP.sub (ws' := [cPB hPB hTX pb_textLength hPI hBO hLO hMT hSE, cI G hTX 160 aTX, cBO hBO bo_width bo_height bo_floor bo_goals bo_live bo_boxes bo_person hBS bo_liveBesideInRow bo_liveBesideInColumn, cLO hLO lo_kept lo_moves lo_pushed hMA lo_end, cI G hMA 500 aMA]) [0, 1, 2, 3, 4] rfl
  replace hD := hD.sub (ws' := [cPB hPB hTX pb_textLength hPI hBO hLO hMT hSE, cI G hTX 160 aTX, cBO hBO bo_width bo_height bo_floor bo_goals bo_live bo_boxes bo_person hBS bo_liveBesideInRow bo_liveBesideInColumn, cLO hLO lo_kept lo_moves lo_pushed hMA lo_end, cI G hMA 500 aMA]) [0, 1, 2, 3, 4] rfl rfl
  refine lv_iload X.1 X.2.1 dX5_row_67 (lv_at hl 0 rfl) ?_
  refine g_ci (wr := [cI G hTX 160 aTX]) X [0, 2, 3, 4] [1] (g_rV (As := [.int r_2, .int v6_1]) (rest := []) X (c_PB_goOften l G hPB hTX hPI hBO hBS hLO hMA hMT hSE pb_textLength bo_width bo_height bo_floor bo_goals bo_live bo_boxes bo_person bo_liveBesideInRow bo_liveBesideInColumn lo_kept lo_moves lo_pushed lo_end aMA r_2 v6_1 _ h _) lk_X5_92 rfl rfl ⟨Nat.le_of_ble_eq_true rfl, Nat.le_of_ble_eq_true rfl⟩ hP hD hS [0, 2, 3, 4] rfl rfl 0 5 rfl rfl rfl hl.1 rfl (Nat.le_of_ble_eq_true rfl) dX5_row_69 ⟨Nat.le_of_ble_eq_true rfl, Nat.le_of_ble_eq_true rfl⟩) hP hD hS rfl rfl rfl (by decide) (fun r_3 u H locs h hP hD hS => ?_)
  obtain ⟨bo_boxes_4, bo_person_5, lo_kept_6, lo_moves_7, lo_pushed_8, lo_end_9, aMA_10⟩ := u
  try dsimp only at h
  replace hP := hP.sub (ws' := [cPB hPB hTX pb_textLength hPI hBO hLO hMT hSE, cI G hTX 160 aTX, cBO hBO bo_width bo_height bo_floor bo_goals bo_live bo_boxes_4 bo_person_5 hBS bo_liveBesideInRow bo_liveBesideInColumn, cLO hLO lo_kept_6 lo_moves_7 lo_pushed_8 hMA lo_end_9, cI G hMA 500 aMA_10]) [1, 0, 2, 3, 4] rfl
  replace hD := hD.sub (ws' := [cPB hPB hTX pb_textLength hPI hBO hLO hMT hSE, cI G hTX 160 aTX, cBO hBO bo_width bo_height bo_floor bo_goals bo_live bo_boxes_4 bo_person_5 hBS bo_liveBesideInRow bo_liveBesideInColumn, cLO hLO lo_kept_6 lo_moves_7 lo_pushed_8 hMA lo_end_9, cI G hMA 500 aMA_10]) [1, 0, 2, 3, 4] rfl rfl
  refine lv_istore (lv' := [(7, .int r_3), (6, .int v6_1), (0, .ref hPB), (1, .int v1), (2, .int v2), (3, .int v3), (4, .int v4), (5, .int v5)]) X.1 X.2.1 dX5_row_72 hl (by decide) rfl (fun ls hl => ?_)
  refine lv_iload X.1 X.2.1 dX5_row_74 (lv_at hl 0 rfl) ?_
  refine lv_iload X.1 X.2.1 dX5_row_76 (lv_at hl 1 rfl) ?_
  refine lv_icmp_ge (tgt := 86) X.1 X.2.1 dX5_row_78 (by decide) (fun hc => ?_) (fun hc => ?_)
  · replace h := Eq.mp (if_pos hc) h
    refine lv_iload_n X.1 X.2.1 dX5_row_86 rfl (lv_at hl 4 rfl) ?_
    refine lv_iload X.1 X.2.1 dX5_row_87 (lv_at hl 0 rfl) ?_
    refine lv_iadd X.1 X.2.1 dX5_row_89 ?_
    refine lv_topi (fun v2_11 e_v2_11 => ?_)
    replace h := h v2_11 e_v2_11
    refine lv_istore_n (lv' := [(2, .int v2_11), (7, .int r_3), (6, .int v6_1), (0, .ref hPB), (1, .int v1), (3, .int v3), (4, .int v4), (5, .int v5)]) X.1 X.2.1 dX5_row_90 rfl hl (by decide) rfl (fun ls hl => ?_)
    refine lv_iconst (v := (0 : Int32)) X.1 X.2.1 dX5_row_91 (by decide) ?_
    refine lv_istore_n (lv' := [(3, .int (0 : Int32)), (2, .int v2_11), (7, .int r_3), (6, .int v6_1), (0, .ref hPB), (1, .int v1), (4, .int v4), (5, .int v5)]) X.1 X.2.1 dX5_row_92 rfl hl (by decide) rfl (fun ls hl => ?_)
    refine lv_iinc (v := (v4 + (1 : Int32))) (lv' := [(4, .int (v4 + (1 : Int32))), (3, .int (0 : Int32)), (2, .int v2_11), (7, .int r_3), (6, .int v6_1), (0, .ref hPB), (1, .int v1), (5, .int v5)]) X.1 X.2.1 dX5_row_93 hl (k := 6) rfl rfl (by decide) rfl (fun ls hl => ?_)
    refine lv_goto (tgt := 12) X.1 X.2.1 dX5_row_96 (by decide) ?_
    exact hk12 pb_textLength bo_boxes_4 bo_person_5 lo_kept_6 lo_moves_7 lo_pushed_8 lo_end_9 aMA_10 v1 v2_11 (0 : Int32) (v4 + (1 : Int32)) _ _ _ h hP hD hS (lv_sub hl [5, 6, 2, 1, 0] rfl)
  · replace h := Eq.mp (if_neg hc) h
    refine lv_iconst (v := (-1 : Int32)) X.1 X.2.1 dX5_row_81 (by decide) ?_
    refine lv_iload X.1 X.2.1 dX5_row_82 (lv_at hl 6 rfl) ?_
    refine lv_isub X.1 X.2.1 dX5_row_84 ?_
    exact g_iret X (pb_textLength, bo_boxes_4, bo_person_5, lo_kept_6, lo_moves_7, lo_pushed_8, lo_end_9, aMA_10) h hP hD hS dX5_row_85
set_option maxHeartbeats 4000000 in
set_option maxRecDepth 100000 in
theorem s_PB_row_12 {p : Program} {l : Launch} {e : Env} {s : State} {m : MethodId} {args : Array Value} {below : List Frame} {meth : Method} {c : Code} {G : gEnv} {A : Nat → Prop} {hPB : Nat} {hTX : Nat} {hPI : Nat} {hBO : Nat} {hBS : Nat} {hLO : Nat} {hMA : Nat} {hMT : Nat} {hSE : Nat} {bo_width : Int32} {bo_height : Int32} {bo_goals : Int64} {bo_live : Int64} {bo_liveBesideInRow : Int64} {bo_liveBesideInColumn : Int64} {aTX : Nat → Int32} {bo_floor : Int64} {post : Int32 → Int32 → Int64 → Int64 → Int32 → Int32 → Int32 → Int32 → (Nat → Int32) → Prop} (X : gX p m meth c cX5_row 8 RX5 (some .int) s args G A)  : ∀ (n : Nat) (pb_textLength : Int32) (bo_boxes : Int64) (bo_person : Int64) (lo_kept : Int32) (lo_moves : Int32) (lo_pushed : Int32) (lo_end : Int32) (aMA : (Nat → Int32)) (v1 : Int32) (v2 : Int32) (v3 : Int32) (v4 : Int32) (H : Heap) (locs : List Loc) (ls : Array Slot), PB_row_12 aTX bo_floor post n pb_textLength bo_boxes bo_person lo_kept lo_moves lo_pushed lo_end aMA v1 v2 v3 v4 → va_P G.1 gCl [cPB hPB hTX pb_textLength hPI hBO hLO hMT hSE, cI G hTX 160 aTX, cBO hBO bo_width bo_height bo_floor bo_goals bo_live bo_boxes bo_person hBS bo_liveBesideInRow bo_liveBesideInColumn, cLO hLO lo_kept lo_moves lo_pushed hMA lo_end, cI G hMA 500 aMA] H → va_D A [cPB hPB hTX pb_textLength hPI hBO hLO hMT hSE, cI G hTX 160 aTX, cBO hBO bo_width bo_height bo_floor bo_goals bo_live bo_boxes bo_person hBS bo_liveBesideInRow bo_liveBesideInColumn, cLO hLO lo_kept lo_moves lo_pushed hMA lo_end, cI G hMA 500 aMA] → va_S A s.heap H locs → lv_has ls 8 [(0, .ref hPB), (1, .int v1), (2, .int v2), (3, .int v3), (4, .int v4)] → W p l e rm_PB_row s m args below meth c H locs 0 0 (MQ below (gQi G (fun (r : Int32) (u : Int32 × Int64 × Int64 × Int32 × Int32 × Int32 × Int32 × (Nat → Int32)) => post r u.1 u.2.1 u.2.2.1 u.2.2.2.1 u.2.2.2.2.1 u.2.2.2.2.2.1 u.2.2.2.2.2.2.1 u.2.2.2.2.2.2.2) (fun (u : Int32 × Int64 × Int64 × Int32 × Int32 × Int32 × Int32 × (Nat → Int32)) => [cPB hPB hTX u.1 hPI hBO hLO hMT hSE, cI G hTX 160 aTX, cBO hBO bo_width bo_height bo_floor bo_goals bo_live u.2.1 u.2.2.1 hBS bo_liveBesideInRow bo_liveBesideInColumn, cLO hLO u.2.2.2.1 u.2.2.2.2.1 u.2.2.2.2.2.1 hMA u.2.2.2.2.2.2.1, cI G hMA 500 u.2.2.2.2.2.2.2]) A) args s 0 0 A) (F0 m 12 ls []) := by
  intro n
  induction n with
  | zero => intro pb_textLength bo_boxes bo_person lo_kept lo_moves lo_pushed lo_end aMA v1 v2 v3 v4 H locs ls h _ _ _ _; exact h.elim
  | succ n ih =>
    intro pb_textLength bo_boxes bo_person lo_kept lo_moves lo_pushed lo_end aMA v1 v2 v3 v4 H locs ls h hP hD hS hl
    unfold PB_row_12 at h
    refine lv_iload X.1 X.2.1 dX5_row_12 (lv_at hl 4 rfl) ?_
    refine lv_iload_n X.1 X.2.1 dX5_row_14 rfl (lv_at hl 1 rfl) ?_
    refine lv_icmp_ge (tgt := 99) X.1 X.2.1 dX5_row_15 (by decide) (fun hc => ?_) (fun hc => ?_)
    · replace h := Eq.mp (if_pos hc) h
      refine lv_iload_n X.1 X.2.1 dX5_row_99 rfl (lv_at hl 3 rfl) ?_
      refine lv_if_ne (tgt := 107) X.1 X.2.1 dX5_row_100 (by decide) (fun hc => ?_) (fun hc => ?_)
      · replace h := Eq.mp (if_neg hc) h
        refine lv_iconst (v := (-1 : Int32)) X.1 X.2.1 dX5_row_107 (by decide) ?_
        refine lv_iload_n X.1 X.2.1 dX5_row_108 rfl (lv_at hl 1 rfl) ?_
        refine lv_isub X.1 X.2.1 dX5_row_109 ?_
        exact g_iret X (pb_textLength, bo_boxes, bo_person, lo_kept, lo_moves, lo_pushed, lo_end, aMA) h hP hD hS dX5_row_110
      · replace h := Eq.mp (if_pos hc) h
        refine lv_iload_n X.1 X.2.1 dX5_row_103 rfl (lv_at hl 2 rfl) ?_
        refine lv_goto (tgt := 110) X.1 X.2.1 dX5_row_104 (by decide) ?_
        exact g_iret X (pb_textLength, bo_boxes, bo_person, lo_kept, lo_moves, lo_pushed, lo_end, aMA) h hP hD hS dX5_row_110
    · replace h := Eq.mp (if_neg hc) h
      refine lv_aload_n X.1 X.2.1 dX5_row_18 rfl (lv_at hl 0 rfl) ?_
      refine g_get X hP 0 5 0 (v := .ref hTX) rfl rfl inX5 (by decide) fl_X5_9 rfl dX5_row_19 ?_
      refine lv_iload X.1 X.2.1 dX5_row_22 (lv_at hl 4 rfl) ?_
      obtain ⟨hin, h⟩ := h
      refine va_iald (D := G.1) X.1 X.2.1 X.k.1 hP 1 0 rfl rfl hin dX5_row_24 ?_
      refine lv_topi (fun v5_1 e_v5_1 => ?_)
      replace h := h v5_1 e_v5_1
      refine lv_istore (lv' := [(5, .int v5_1), (0, .ref hPB), (1, .int v1), (2, .int v2), (3, .int v3), (4, .int v4)]) X.1 X.2.1 dX5_row_25 hl (by decide) rfl (fun ls hl => ?_)
      refine lv_iload_n X.1 X.2.1 dX5_row_27 rfl (lv_at hl 4 rfl) ?_
      refine lv_if_ne (tgt := 54) X.1 X.2.1 dX5_row_28 (by decide) (fun hc => ?_) (fun hc => ?_)
      · replace h := Eq.mp (if_neg hc) h
        exact s_PB_row_54 X (fun pb_textLength' bo_boxes' bo_person' lo_kept' lo_moves' lo_pushed' lo_end' aMA' v1' v2' v3' v4' H' locs' ls' h' hP' hD' hS' hl' => ih pb_textLength' bo_boxes' bo_person' lo_kept' lo_moves' lo_pushed' lo_end' aMA' v1' v2' v3' v4' H' locs' ls' h' hP' hD' hS' hl') pb_textLength bo_boxes bo_person lo_kept lo_moves lo_pushed lo_end aMA v1 v2 v3 v4 v5_1 _ _ _ h hP hD hS (lv_sub hl [1, 2, 3, 4, 5, 0] rfl)
      · replace h := Eq.mp (if_pos hc) h
        refine lv_iload X.1 X.2.1 dX5_row_31 (lv_at hl 0 rfl) ?_
        refine lv_bipush (v := (50 : Int32)) X.1 X.2.1 dX5_row_33 (by decide) ?_
        refine lv_icmp_lt (tgt := 54) X.1 X.2.1 dX5_row_35 (by decide) (fun hc => ?_) (fun hc => ?_)
        · replace h := Eq.mp (if_pos hc) h
          exact s_PB_row_54 X (fun pb_textLength' bo_boxes' bo_person' lo_kept' lo_moves' lo_pushed' lo_end' aMA' v1' v2' v3' v4' H' locs' ls' h' hP' hD' hS' hl' => ih pb_textLength' bo_boxes' bo_person' lo_kept' lo_moves' lo_pushed' lo_end' aMA' v1' v2' v3' v4' H' locs' ls' h' hP' hD' hS' hl') pb_textLength bo_boxes bo_person lo_kept lo_moves lo_pushed lo_end aMA v1 v2 v3 v4 v5_1 _ _ _ h hP hD hS (lv_sub hl [1, 2, 3, 4, 5, 0] rfl)
        · replace h := Eq.mp (if_neg hc) h
          refine lv_iload X.1 X.2.1 dX5_row_38 (lv_at hl 0 rfl) ?_
          refine lv_bipush (v := (57 : Int32)) X.1 X.2.1 dX5_row_40 (by decide) ?_
          refine lv_icmp_gt (tgt := 54) X.1 X.2.1 dX5_row_42 (by decide) (fun hc => ?_) (fun hc => ?_)
          · replace h := Eq.mp (if_pos hc) h
            exact s_PB_row_54 X (fun pb_textLength' bo_boxes' bo_person' lo_kept' lo_moves' lo_pushed' lo_end' aMA' v1' v2' v3' v4' H' locs' ls' h' hP' hD' hS' hl' => ih pb_textLength' bo_boxes' bo_person' lo_kept' lo_moves' lo_pushed' lo_end' aMA' v1' v2' v3' v4' H' locs' ls' h' hP' hD' hS' hl') pb_textLength bo_boxes bo_person lo_kept lo_moves lo_pushed lo_end aMA v1 v2 v3 v4 v5_1 _ _ _ h hP hD hS (lv_sub hl [1, 2, 3, 4, 5, 0] rfl)
          · replace h := Eq.mp (if_neg hc) h
            refine lv_iload X.1 X.2.1 dX5_row_45 (lv_at hl 0 rfl) ?_
            refine lv_bipush (v := (48 : Int32)) X.1 X.2.1 dX5_row_47 (by decide) ?_
            refine lv_isub X.1 X.2.1 dX5_row_49 ?_
            refine lv_topi (fun v3_2 e_v3_2 => ?_)
            replace h := h v3_2 e_v3_2
            refine lv_istore_n (lv' := [(3, .int v3_2), (5, .int v5_1), (0, .ref hPB), (1, .int v1), (2, .int v2), (4, .int v4)]) X.1 X.2.1 dX5_row_50 rfl hl (by decide) rfl (fun ls hl => ?_)
            refine lv_goto (tgt := 93) X.1 X.2.1 dX5_row_51 (by decide) ?_
            refine lv_iinc (v := (v4 + (1 : Int32))) (lv' := [(4, .int (v4 + (1 : Int32))), (3, .int v3_2), (5, .int v5_1), (0, .ref hPB), (1, .int v1), (2, .int v2)]) X.1 X.2.1 dX5_row_93 hl (k := 5) rfl rfl (by decide) rfl (fun ls hl => ?_)
            refine lv_goto (tgt := 12) X.1 X.2.1 dX5_row_96 (by decide) ?_
            exact ih pb_textLength bo_boxes bo_person lo_kept lo_moves lo_pushed lo_end aMA v1 v2 v3_2 (v4 + (1 : Int32)) _ _ _ h hP hD hS (lv_sub hl [3, 4, 5, 1, 0] rfl)
set_option maxHeartbeats 4000000 in
set_option maxRecDepth 100000 in
theorem c_PB_row (l : Launch) (G : gEnv) (hPB : Nat) (hTX : Nat) (hPI : Nat) (hBO : Nat) (hBS : Nat) (hLO : Nat) (hMA : Nat) (hMT : Nat) (hSE : Nat) (pb_textLength : Int32) (aTX : Nat → Int32) (bo_width : Int32) (bo_height : Int32) (bo_floor : Int64) (bo_goals : Int64) (bo_live : Int64) (bo_boxes : Int64) (bo_person : Int64) (bo_liveBesideInRow : Int64) (bo_liveBesideInColumn : Int64) (lo_kept : Int32) (lo_moves : Int32) (lo_pushed : Int32) (lo_end : Int32) (aMA : Nat → Int32) (post : Int32 → Int32 → Int64 → Int64 → Int32 → Int32 → Int32 → Int32 → (Nat → Int32) → Prop) (h : PB_row aTX bo_floor pb_textLength bo_boxes bo_person lo_kept lo_moves lo_pushed lo_end aMA post) (sz : Nat) : Met l yX5_row (Cond.code yX5_row cX5_row 8 (some .int) :: wAll) (rm_PB_row) (gPc G [.ref hPB] [cPB hPB hTX pb_textLength hPI hBO hLO hMT hSE, cI G hTX 160 aTX, cBO hBO bo_width bo_height bo_floor bo_goals bo_live bo_boxes bo_person hBS bo_liveBesideInRow bo_liveBesideInColumn, cLO hLO lo_kept lo_moves lo_pushed hMA lo_end, cI G hMA 500 aMA] sz) (gQi G (fun (r : Int32) (u : Int32 × Int64 × Int64 × Int32 × Int32 × Int32 × Int32 × (Nat → Int32)) => post r u.1 u.2.1 u.2.2.1 u.2.2.2.1 u.2.2.2.2.1 u.2.2.2.2.2.1 u.2.2.2.2.2.2.1 u.2.2.2.2.2.2.2) (fun (u : Int32 × Int64 × Int64 × Int32 × Int32 × Int32 × Int32 × (Nat → Int32)) => [cPB hPB hTX u.1 hPI hBO hLO hMT hSE, cI G hTX 160 aTX, cBO hBO bo_width bo_height bo_floor bo_goals bo_live u.2.1 u.2.2.1 hBS bo_liveBesideInRow bo_liveBesideInColumn, cLO hLO u.2.2.2.1 u.2.2.2.2.1 u.2.2.2.2.2.1 hMA u.2.2.2.2.2.2.1, cI G hMA 500 u.2.2.2.2.2.2.2]) (va_A [cPB hPB hTX pb_textLength hPI hBO hLO hMT hSE, cI G hTX 160 aTX, cBO hBO bo_width bo_height bo_floor bo_goals bo_live bo_boxes bo_person hBS bo_liveBesideInRow bo_liveBesideInColumn, cLO hLO lo_kept lo_moves lo_pushed hMA lo_end, cI G hMA 500 aMA] sz)) 0 0 (va_A [cPB hPB hTX pb_textLength hPI hBO hLO hMT hSE, cI G hTX 160 aTX, cBO hBO bo_width bo_height bo_floor bo_goals bo_live bo_boxes bo_person hBS bo_liveBesideInRow bo_liveBesideInColumn, cLO hLO lo_kept lo_moves lo_pushed hMA lo_end, cI G hMA 500 aMA] sz) := by
  refine Met.ofW (cc := cX5_row) (maxL := 8) (ret := (some .int)) (by decide) rfl ?_
  intro p e s m args below meth c s₁ B hml hv
  obtain ⟨rfl, hsz, hP, hK, hD0⟩ := hv
  subst hsz
  have X := gX.ofB (ws := [cPB hPB hTX pb_textLength hPI hBO hLO hMT hSE, cI G hTX 160 aTX, cBO hBO bo_width bo_height bo_floor bo_goals bo_live bo_boxes bo_person hBS bo_liveBesideInRow bo_liveBesideInColumn, cLO hLO lo_kept lo_moves lo_pushed hMA lo_end, cI G hMA 500 aMA]) B hml hK hD0
  have hD := hD0.self (sz := s.heap.size)
  generalize hAe : va_A [cPB hPB hTX pb_textLength hPI hBO hLO hMT hSE, cI G hTX 160 aTX, cBO hBO bo_width bo_height bo_floor bo_goals bo_live bo_boxes bo_person hBS bo_liveBesideInRow bo_liveBesideInColumn, cLO hLO lo_kept lo_moves lo_pushed hMA lo_end, cI G hMA 500 aMA] s.heap.size = A at X hD ⊢
  have hS : va_S A s.heap s.heap [] := va_S.rf
  have hl := lv_entry ([.ref hPB]) (n := 8) (Nat.le_of_ble_eq_true rfl)
  rw [lg_entry_eq]
  generalize (lg_sl ([.ref hPB]) ++ List.replicate (8 - (lg_sl ([.ref hPB])).length) Slot.unset).toArray = ls at hl ⊢
  have hl : lv_has ls 8 [(0, .ref hPB)] := hl
  dsimp only [headSpec]
  unfold PB_row at h
  refine lv_aload_n X.1 X.2.1 dX5_row_0 rfl (lv_at hl 0 rfl) ?_
  refine g_ci (wr := [cI G hTX 160 aTX, cBO hBO bo_width bo_height bo_floor bo_goals bo_live bo_boxes bo_person hBS bo_liveBesideInRow bo_liveBesideInColumn, cLO hLO lo_kept lo_moves lo_pushed hMA lo_end, cI G hMA 500 aMA]) X [0] [1, 2, 3, 4] (g_rV (As := []) (rest := []) X (c_PB_takeText l G hPB hTX hPI hBO hLO hMT hSE pb_textLength _ h _) lk_X5_52 rfl rfl ⟨Nat.le_of_ble_eq_true rfl, Nat.le_of_ble_eq_true rfl⟩ hP hD hS [0] rfl rfl 0 5 rfl rfl rfl hl.1 rfl (Nat.le_of_ble_eq_true rfl) dX5_row_1 ⟨Nat.le_of_ble_eq_true rfl, Nat.le_of_ble_eq_true rfl⟩) hP hD hS rfl rfl rfl (by decide) (fun r_1 u H locs h hP hD hS => ?_)
  obtain ⟨pb_textLength_2, rfl⟩ : ∃ z, z = u := ⟨_, rfl⟩
  try dsimp only at h
  replace hP := hP.sub (ws' := [cPB hPB hTX pb_textLength_2 hPI hBO hLO hMT hSE, cI G hTX 160 aTX, cBO hBO bo_width bo_height bo_floor bo_goals bo_live bo_boxes bo_person hBS bo_liveBesideInRow bo_liveBesideInColumn, cLO hLO lo_kept lo_moves lo_pushed hMA lo_end, cI G hMA 500 aMA]) [4, 0, 1, 2, 3] rfl
  replace hD := hD.sub (ws' := [cPB hPB hTX pb_textLength_2 hPI hBO hLO hMT hSE, cI G hTX 160 aTX, cBO hBO bo_width bo_height bo_floor bo_goals bo_live bo_boxes bo_person hBS bo_liveBesideInRow bo_liveBesideInColumn, cLO hLO lo_kept lo_moves lo_pushed hMA lo_end, cI G hMA 500 aMA]) [4, 0, 1, 2, 3] rfl rfl
  refine lv_istore_n (lv' := [(1, .int r_1), (0, .ref hPB)]) X.1 X.2.1 dX5_row_4 rfl hl (by decide) rfl (fun ls hl => ?_)
  refine lv_iconst (v := (0 : Int32)) X.1 X.2.1 dX5_row_5 (by decide) ?_
  refine lv_istore_n (lv' := [(2, .int (0 : Int32)), (1, .int r_1), (0, .ref hPB)]) X.1 X.2.1 dX5_row_6 rfl hl (by decide) rfl (fun ls hl => ?_)
  refine lv_iconst (v := (0 : Int32)) X.1 X.2.1 dX5_row_7 (by decide) ?_
  refine lv_istore_n (lv' := [(3, .int (0 : Int32)), (2, .int (0 : Int32)), (1, .int r_1), (0, .ref hPB)]) X.1 X.2.1 dX5_row_8 rfl hl (by decide) rfl (fun ls hl => ?_)
  refine lv_iconst (v := (0 : Int32)) X.1 X.2.1 dX5_row_9 (by decide) ?_
  refine lv_istore (lv' := [(4, .int (0 : Int32)), (3, .int (0 : Int32)), (2, .int (0 : Int32)), (1, .int r_1), (0, .ref hPB)]) X.1 X.2.1 dX5_row_10 hl (by decide) rfl (fun ls hl => ?_)
  obtain ⟨n', h⟩ := h
  exact s_PB_row_12 X  n' pb_textLength_2 bo_boxes bo_person lo_kept lo_moves lo_pushed lo_end aMA r_1 (0 : Int32) (0 : Int32) (0 : Int32) _ _ _ h hP hD hS (lv_sub hl [4, 3, 2, 1, 0] rfl)
abbrev rm_PB_undo : Room := { frames := 2, cells := 0, slots := 0, locals := 44 }
set_option maxHeartbeats 4000000 in
set_option maxRecDepth 100000 in
theorem c_PB_undo (l : Launch) (G : gEnv) (hPB : Nat) (hTX : Nat) (hPI : Nat) (hBO : Nat) (hBS : Nat) (hLO : Nat) (hMA : Nat) (hMT : Nat) (hSE : Nat) (pb_textLength : Int32) (bo_width : Int32) (bo_height : Int32) (bo_floor : Int64) (bo_goals : Int64) (bo_live : Int64) (bo_boxes : Int64) (bo_person : Int64) (bo_liveBesideInRow : Int64) (bo_liveBesideInColumn : Int64) (lo_kept : Int32) (lo_moves : Int32) (lo_pushed : Int32) (lo_end : Int32) (aMA : Nat → Int32) (post : Int32 → Int64 → Int64 → Int32 → Int32 → Int32 → Int32 → Prop) (h : PB_undo aMA bo_boxes bo_person lo_kept lo_moves lo_pushed lo_end post) (sz : Nat) : Met l yX5_undo (Cond.code yX5_undo cX5_undo 3 (some .int) :: wAll) (rm_PB_undo) (gPc G [.ref hPB] [cPB hPB hTX pb_textLength hPI hBO hLO hMT hSE, cBO hBO bo_width bo_height bo_floor bo_goals bo_live bo_boxes bo_person hBS bo_liveBesideInRow bo_liveBesideInColumn, cLO hLO lo_kept lo_moves lo_pushed hMA lo_end, cI G hMA 500 aMA] sz) (gQi G (fun (r : Int32) (u : Int64 × Int64 × Int32 × Int32 × Int32 × Int32) => post r u.1 u.2.1 u.2.2.1 u.2.2.2.1 u.2.2.2.2.1 u.2.2.2.2.2) (fun (u : Int64 × Int64 × Int32 × Int32 × Int32 × Int32) => [cPB hPB hTX pb_textLength hPI hBO hLO hMT hSE, cBO hBO bo_width bo_height bo_floor bo_goals bo_live u.1 u.2.1 hBS bo_liveBesideInRow bo_liveBesideInColumn, cLO hLO u.2.2.1 u.2.2.2.1 u.2.2.2.2.1 hMA u.2.2.2.2.2, cI G hMA 500 aMA]) (va_A [cPB hPB hTX pb_textLength hPI hBO hLO hMT hSE, cBO hBO bo_width bo_height bo_floor bo_goals bo_live bo_boxes bo_person hBS bo_liveBesideInRow bo_liveBesideInColumn, cLO hLO lo_kept lo_moves lo_pushed hMA lo_end, cI G hMA 500 aMA] sz)) 0 0 (va_A [cPB hPB hTX pb_textLength hPI hBO hLO hMT hSE, cBO hBO bo_width bo_height bo_floor bo_goals bo_live bo_boxes bo_person hBS bo_liveBesideInRow bo_liveBesideInColumn, cLO hLO lo_kept lo_moves lo_pushed hMA lo_end, cI G hMA 500 aMA] sz) := by
  refine Met.ofW (cc := cX5_undo) (maxL := 3) (ret := (some .int)) (by decide) rfl ?_
  intro p e s m args below meth c s₁ B hml hv
  obtain ⟨rfl, hsz, hP, hK, hD0⟩ := hv
  subst hsz
  have X := gX.ofB (ws := [cPB hPB hTX pb_textLength hPI hBO hLO hMT hSE, cBO hBO bo_width bo_height bo_floor bo_goals bo_live bo_boxes bo_person hBS bo_liveBesideInRow bo_liveBesideInColumn, cLO hLO lo_kept lo_moves lo_pushed hMA lo_end, cI G hMA 500 aMA]) B hml hK hD0
  have hD := hD0.self (sz := s.heap.size)
  generalize hAe : va_A [cPB hPB hTX pb_textLength hPI hBO hLO hMT hSE, cBO hBO bo_width bo_height bo_floor bo_goals bo_live bo_boxes bo_person hBS bo_liveBesideInRow bo_liveBesideInColumn, cLO hLO lo_kept lo_moves lo_pushed hMA lo_end, cI G hMA 500 aMA] s.heap.size = A at X hD ⊢
  have hS : va_S A s.heap s.heap [] := va_S.rf
  have hl := lv_entry ([.ref hPB]) (n := 3) (Nat.le_of_ble_eq_true rfl)
  rw [lg_entry_eq]
  generalize (lg_sl ([.ref hPB]) ++ List.replicate (3 - (lg_sl ([.ref hPB])).length) Slot.unset).toArray = ls at hl ⊢
  have hl : lv_has ls 3 [(0, .ref hPB)] := hl
  dsimp only [headSpec]
  unfold PB_undo at h
  refine lv_aload_n X.1 X.2.1 dX5_undo_0 rfl (lv_at hl 0 rfl) ?_
  refine g_get X hP 0 5 4 (v := .ref hLO) rfl rfl inX5 (by decide) fl_X5_30 rfl dX5_undo_1 ?_
  refine g_get X hP 2 1 0 (v := .int lo_kept) rfl rfl inX1 (by decide) fl_X5_113 rfl dX5_undo_4 ?_
  refine lv_if_ne (tgt := 12) X.1 X.2.1 dX5_undo_7 (by decide) (fun hc => ?_) (fun hc => ?_)
  · replace h := Eq.mp (if_neg hc) h
    refine lv_aload_n X.1 X.2.1 dX5_undo_12 rfl (lv_at hl 0 rfl) ?_
    refine g_get X hP 0 5 4 (v := .ref hLO) rfl rfl inX5 (by decide) fl_X5_30 rfl dX5_undo_13 ?_
    refine g_ci (wr := [cPB hPB hTX pb_textLength hPI hBO hLO hMT hSE, cBO hBO bo_width bo_height bo_floor bo_goals bo_live bo_boxes bo_person hBS bo_liveBesideInRow bo_liveBesideInColumn]) X [2, 3] [0, 1] (g_rV (As := []) (rest := []) X (c_LO_takeLast l G hLO hMA lo_kept lo_moves lo_pushed lo_end aMA _ h _) lk_X5_116 rfl rfl ⟨Nat.le_of_ble_eq_true rfl, Nat.le_of_ble_eq_true rfl⟩ hP hD hS [2, 3] rfl rfl 2 1 rfl rfl rfl hl.1 rfl (Nat.le_of_ble_eq_true rfl) dX5_undo_16 ⟨Nat.le_of_ble_eq_true rfl, Nat.le_of_ble_eq_true rfl⟩) hP hD hS rfl rfl rfl (by decide) (fun r_1 u H locs h hP hD hS => ?_)
    obtain ⟨lo_kept_2, lo_moves_3, lo_pushed_4, lo_end_5⟩ := u
    try dsimp only at h
    replace hP := hP.sub (ws' := [cPB hPB hTX pb_textLength hPI hBO hLO hMT hSE, cBO hBO bo_width bo_height bo_floor bo_goals bo_live bo_boxes bo_person hBS bo_liveBesideInRow bo_liveBesideInColumn, cLO hLO lo_kept_2 lo_moves_3 lo_pushed_4 hMA lo_end_5, cI G hMA 500 aMA]) [0, 1, 2, 3] rfl
    replace hD := hD.sub (ws' := [cPB hPB hTX pb_textLength hPI hBO hLO hMT hSE, cBO hBO bo_width bo_height bo_floor bo_goals bo_live bo_boxes bo_person hBS bo_liveBesideInRow bo_liveBesideInColumn, cLO hLO lo_kept_2 lo_moves_3 lo_pushed_4 hMA lo_end_5, cI G hMA 500 aMA]) [0, 1, 2, 3] rfl rfl
    refine lv_istore_n (lv' := [(1, .int r_1), (0, .ref hPB)]) X.1 X.2.1 dX5_undo_19 rfl hl (by decide) rfl (fun ls hl => ?_)
    refine lv_iload_n X.1 X.2.1 dX5_undo_20 rfl (lv_at hl 0 rfl) ?_
    refine g_ci (wr := [cPB hPB hTX pb_textLength hPI hBO hLO hMT hSE, cBO hBO bo_width bo_height bo_floor bo_goals bo_live bo_boxes bo_person hBS bo_liveBesideInRow bo_liveBesideInColumn, cLO hLO lo_kept_2 lo_moves_3 lo_pushed_4 hMA lo_end_5, cI G hMA 500 aMA]) X [] [0, 1, 2, 3] (g_rS (As := [.int r_1]) (rest := []) X (c_LO_isPush l G r_1 _ h _) lk_X5_119 rfl rfl ⟨Nat.le_of_ble_eq_true rfl, Nat.le_of_ble_eq_true rfl⟩ hP hD hS [] rfl rfl rfl hl.1 rfl (Nat.le_of_ble_eq_true rfl) dX5_undo_21 ⟨Nat.le_of_ble_eq_true rfl, Nat.le_of_ble_eq_true rfl⟩) hP hD hS rfl rfl rfl (by decide) (fun r_6 u H locs h hP hD hS => ?_)
    try dsimp only at h
    replace hP := hP.sub (ws' := [cPB hPB hTX pb_textLength hPI hBO hLO hMT hSE, cBO hBO bo_width bo_height bo_floor bo_goals bo_live bo_boxes bo_person hBS bo_liveBesideInRow bo_liveBesideInColumn, cLO hLO lo_kept_2 lo_moves_3 lo_pushed_4 hMA lo_end_5, cI G hMA 500 aMA]) [0, 1, 2, 3] rfl
    replace hD := hD.sub (ws' := [cPB hPB hTX pb_textLength hPI hBO hLO hMT hSE, cBO hBO bo_width bo_height bo_floor bo_goals bo_live bo_boxes bo_person hBS bo_liveBesideInRow bo_liveBesideInColumn, cLO hLO lo_kept_2 lo_moves_3 lo_pushed_4 hMA lo_end_5, cI G hMA 500 aMA]) [0, 1, 2, 3] rfl rfl
    refine lv_istore_n (lv' := [(2, .int r_6), (1, .int r_1), (0, .ref hPB)]) X.1 X.2.1 dX5_undo_24 rfl hl (by decide) rfl (fun ls hl => ?_)
    refine lv_aload_n X.1 X.2.1 dX5_undo_25 rfl (lv_at hl 2 rfl) ?_
    refine g_get X hP 0 5 3 (v := .ref hBO) rfl rfl inX5 (by decide) fl_X5_23 rfl dX5_undo_26 ?_
    refine lv_iload_n X.1 X.2.1 dX5_undo_29 rfl (lv_at hl 1 rfl) ?_
    refine g_ci (wr := [cPB hPB hTX pb_textLength hPI hBO hLO hMT hSE, cBO hBO bo_width bo_height bo_floor bo_goals bo_live bo_boxes bo_person hBS bo_liveBesideInRow bo_liveBesideInColumn, cLO hLO lo_kept_2 lo_moves_3 lo_pushed_4 hMA lo_end_5, cI G hMA 500 aMA]) X [] [0, 1, 2, 3] (g_rS (As := [.int r_1]) (rest := [.ref hBO]) X (c_LO_wayOf l G r_1 _ h _) lk_X5_122 rfl rfl ⟨Nat.le_of_ble_eq_true rfl, Nat.le_of_ble_eq_true rfl⟩ hP hD hS [] rfl rfl rfl hl.1 rfl (Nat.le_of_ble_eq_true rfl) dX5_undo_30 ⟨Nat.le_of_ble_eq_true rfl, Nat.le_of_ble_eq_true rfl⟩) hP hD hS rfl rfl rfl (by decide) (fun r_7 u H locs h hP hD hS => ?_)
    try dsimp only at h
    replace hP := hP.sub (ws' := [cPB hPB hTX pb_textLength hPI hBO hLO hMT hSE, cBO hBO bo_width bo_height bo_floor bo_goals bo_live bo_boxes bo_person hBS bo_liveBesideInRow bo_liveBesideInColumn, cLO hLO lo_kept_2 lo_moves_3 lo_pushed_4 hMA lo_end_5, cI G hMA 500 aMA]) [0, 1, 2, 3] rfl
    replace hD := hD.sub (ws' := [cPB hPB hTX pb_textLength hPI hBO hLO hMT hSE, cBO hBO bo_width bo_height bo_floor bo_goals bo_live bo_boxes bo_person hBS bo_liveBesideInRow bo_liveBesideInColumn, cLO hLO lo_kept_2 lo_moves_3 lo_pushed_4 hMA lo_end_5, cI G hMA 500 aMA]) [0, 1, 2, 3] rfl rfl
    refine lv_iload_n X.1 X.2.1 dX5_undo_33 rfl (lv_at hl 0 rfl) ?_
    refine g_cv (wr := [cPB hPB hTX pb_textLength hPI hBO hLO hMT hSE, cLO hLO lo_kept_2 lo_moves_3 lo_pushed_4 hMA lo_end_5, cI G hMA 500 aMA]) X [1] [0, 2, 3] (g_rV (As := [.int r_7, .int r_6]) (rest := []) X (c_BO_goBack l G hBO hBS bo_width bo_height bo_floor bo_goals bo_live bo_boxes bo_person bo_liveBesideInRow bo_liveBesideInColumn r_7 r_6 _ h _) lk_X5_125 rfl rfl ⟨Nat.le_of_ble_eq_true rfl, Nat.le_of_ble_eq_true rfl⟩ hP hD hS [1] rfl rfl 1 0 rfl rfl rfl hl.1 rfl (Nat.le_of_ble_eq_true rfl) dX5_undo_34 ⟨Nat.le_of_ble_eq_true rfl, Nat.le_of_ble_eq_true rfl⟩) hP hD hS rfl rfl rfl (by decide) (fun u H locs h hP hD hS => ?_)
    obtain ⟨bo_boxes_8, bo_person_9⟩ := u
    try dsimp only at h
    replace hP := hP.sub (ws' := [cPB hPB hTX pb_textLength hPI hBO hLO hMT hSE, cBO hBO bo_width bo_height bo_floor bo_goals bo_live bo_boxes_8 bo_person_9 hBS bo_liveBesideInRow bo_liveBesideInColumn, cLO hLO lo_kept_2 lo_moves_3 lo_pushed_4 hMA lo_end_5, cI G hMA 500 aMA]) [0, 3, 1, 2] rfl
    replace hD := hD.sub (ws' := [cPB hPB hTX pb_textLength hPI hBO hLO hMT hSE, cBO hBO bo_width bo_height bo_floor bo_goals bo_live bo_boxes_8 bo_person_9 hBS bo_liveBesideInRow bo_liveBesideInColumn, cLO hLO lo_kept_2 lo_moves_3 lo_pushed_4 hMA lo_end_5, cI G hMA 500 aMA]) [0, 3, 1, 2] rfl rfl
    refine lv_iload_n X.1 X.2.1 dX5_undo_37 rfl (lv_at hl 0 rfl) ?_
    refine lv_if_eq (tgt := 45) X.1 X.2.1 dX5_undo_38 (by decide) (fun hc => ?_) (fun hc => ?_)
    · replace h := Eq.mp (if_pos hc) h
      refine lv_iconst (v := (1 : Int32)) X.1 X.2.1 dX5_undo_45 (by decide) ?_
      exact g_iret X (bo_boxes_8, bo_person_9, lo_kept_2, lo_moves_3, lo_pushed_4, lo_end_5) h hP hD hS dX5_undo_46
    · replace h := Eq.mp (if_neg hc) h
      refine lv_iconst (v := (2 : Int32)) X.1 X.2.1 dX5_undo_41 (by decide) ?_
      refine lv_goto (tgt := 46) X.1 X.2.1 dX5_undo_42 (by decide) ?_
      exact g_iret X (bo_boxes_8, bo_person_9, lo_kept_2, lo_moves_3, lo_pushed_4, lo_end_5) h hP hD hS dX5_undo_46
  · replace h := Eq.mp (if_pos hc) h
    refine lv_iconst (v := (0 : Int32)) X.1 X.2.1 dX5_undo_10 (by decide) ?_
    exact g_iret X (bo_boxes, bo_person, lo_kept, lo_moves, lo_pushed, lo_end) h hP hD hS dX5_undo_11
abbrev rm_PB_told : Room := { frames := 3, cells := 0, slots := 0, locals := 65 }
set_option maxHeartbeats 4000000 in
set_option maxRecDepth 100000 in
theorem c_PB_told (l : Launch) (G : gEnv) (hPB : Nat) (hTX : Nat) (hPI : Nat) (hBO : Nat) (hBS : Nat) (hLO : Nat) (hMA : Nat) (hMT : Nat) (hSE : Nat) (pb_textLength : Int32) (bo_width : Int32) (bo_height : Int32) (bo_floor : Int64) (bo_goals : Int64) (bo_live : Int64) (bo_boxes : Int64) (bo_person : Int64) (bo_liveBesideInRow : Int64) (bo_liveBesideInColumn : Int64) (lo_kept : Int32) (lo_moves : Int32) (lo_pushed : Int32) (lo_end : Int32) (v1 : Int32) (post : Int32 → Prop) (h : PB_told bo_width bo_height bo_goals bo_boxes bo_person lo_moves lo_pushed v1 post) (sz : Nat) : Met l yX5_told (Cond.code yX5_told cX5_told 2 (some .int) :: wAll) (rm_PB_told) (gPc G [.ref hPB, .int v1] [cPB hPB hTX pb_textLength hPI hBO hLO hMT hSE, cBO hBO bo_width bo_height bo_floor bo_goals bo_live bo_boxes bo_person hBS bo_liveBesideInRow bo_liveBesideInColumn, cLO hLO lo_kept lo_moves lo_pushed hMA lo_end] sz) (gQi G (fun (r : Int32) (u : Unit) => post r ) (fun (u : Unit) => [cPB hPB hTX pb_textLength hPI hBO hLO hMT hSE, cBO hBO bo_width bo_height bo_floor bo_goals bo_live bo_boxes bo_person hBS bo_liveBesideInRow bo_liveBesideInColumn, cLO hLO lo_kept lo_moves lo_pushed hMA lo_end]) (va_A [cPB hPB hTX pb_textLength hPI hBO hLO hMT hSE, cBO hBO bo_width bo_height bo_floor bo_goals bo_live bo_boxes bo_person hBS bo_liveBesideInRow bo_liveBesideInColumn, cLO hLO lo_kept lo_moves lo_pushed hMA lo_end] sz)) 0 0 (va_A [cPB hPB hTX pb_textLength hPI hBO hLO hMT hSE, cBO hBO bo_width bo_height bo_floor bo_goals bo_live bo_boxes bo_person hBS bo_liveBesideInRow bo_liveBesideInColumn, cLO hLO lo_kept lo_moves lo_pushed hMA lo_end] sz) := by
  refine Met.ofW (cc := cX5_told) (maxL := 2) (ret := (some .int)) (by decide) rfl ?_
  intro p e s m args below meth c s₁ B hml hv
  obtain ⟨rfl, hsz, hP, hK, hD0⟩ := hv
  subst hsz
  have X := gX.ofB (ws := [cPB hPB hTX pb_textLength hPI hBO hLO hMT hSE, cBO hBO bo_width bo_height bo_floor bo_goals bo_live bo_boxes bo_person hBS bo_liveBesideInRow bo_liveBesideInColumn, cLO hLO lo_kept lo_moves lo_pushed hMA lo_end]) B hml hK hD0
  have hD := hD0.self (sz := s.heap.size)
  generalize hAe : va_A [cPB hPB hTX pb_textLength hPI hBO hLO hMT hSE, cBO hBO bo_width bo_height bo_floor bo_goals bo_live bo_boxes bo_person hBS bo_liveBesideInRow bo_liveBesideInColumn, cLO hLO lo_kept lo_moves lo_pushed hMA lo_end] s.heap.size = A at X hD ⊢
  have hS : va_S A s.heap s.heap [] := va_S.rf
  have hl := lv_entry ([.ref hPB, .int v1]) (n := 2) (Nat.le_of_ble_eq_true rfl)
  rw [lg_entry_eq]
  generalize (lg_sl ([.ref hPB, .int v1]) ++ List.replicate (2 - (lg_sl ([.ref hPB, .int v1])).length) Slot.unset).toArray = ls at hl ⊢
  have hl : lv_has ls 2 [(0, .ref hPB), (1, .int v1)] := hl
  dsimp only [headSpec]
  unfold PB_told at h
  refine lv_iload_n X.1 X.2.1 dX5_told_0 rfl (lv_at hl 1 rfl) ?_
  by_cases hc0 : v1 = (0 : Int32)
  · replace h := Eq.mp (if_pos hc0) h
    refine lv_tableIn (tgt := 52) X.1 X.2.1 dX5_told_1 (by rw [hc0]; decide) (by rw [hc0]; decide) (by rw [hc0] <;> rfl) (by decide) ?_
    refine lv_aload_n X.1 X.2.1 dX5_told_52 rfl (lv_at hl 0 rfl) ?_
    refine g_get X hP 0 5 3 (v := .ref hBO) rfl rfl inX5 (by decide) fl_X5_23 rfl dX5_told_53 ?_
    refine g_get X hP 1 0 0 (v := .int bo_width) rfl rfl inX0 (by decide) fl_X5_129 rfl dX5_told_56 ?_
    exact g_iret X () h hP hD hS dX5_told_59
  replace h := Eq.mp (if_neg hc0) h
  by_cases hc1 : v1 = (1 : Int32)
  · replace h := Eq.mp (if_pos hc1) h
    refine lv_tableIn (tgt := 60) X.1 X.2.1 dX5_told_1 (by rw [hc1]; decide) (by rw [hc1]; decide) (by rw [hc1] <;> rfl) (by decide) ?_
    refine lv_aload_n X.1 X.2.1 dX5_told_60 rfl (lv_at hl 0 rfl) ?_
    refine g_get X hP 0 5 3 (v := .ref hBO) rfl rfl inX5 (by decide) fl_X5_23 rfl dX5_told_61 ?_
    refine g_get X hP 1 0 1 (v := .int bo_height) rfl rfl inX0 (by decide) fl_X5_132 rfl dX5_told_64 ?_
    exact g_iret X () h hP hD hS dX5_told_67
  replace h := Eq.mp (if_neg hc1) h
  by_cases hc2 : v1 = (2 : Int32)
  · replace h := Eq.mp (if_pos hc2) h
    refine lv_tableIn (tgt := 68) X.1 X.2.1 dX5_told_1 (by rw [hc2]; decide) (by rw [hc2]; decide) (by rw [hc2] <;> rfl) (by decide) ?_
    refine lv_aload_n X.1 X.2.1 dX5_told_68 rfl (lv_at hl 0 rfl) ?_
    refine g_get X hP 0 5 3 (v := .ref hBO) rfl rfl inX5 (by decide) fl_X5_23 rfl dX5_told_69 ?_
    refine g_get X hP 1 0 5 (v := .long bo_boxes) rfl rfl inX0 (by decide) fl_X5_72 rfl dX5_told_72 ?_
    refine g_ci (wr := [cPB hPB hTX pb_textLength hPI hBO hLO hMT hSE, cBO hBO bo_width bo_height bo_floor bo_goals bo_live bo_boxes bo_person hBS bo_liveBesideInRow bo_liveBesideInColumn, cLO hLO lo_kept lo_moves lo_pushed hMA lo_end]) X [] [0, 1, 2] (g_rS (As := [.long bo_boxes]) (rest := []) X (c_JL_bitCount l G bo_boxes _ h _) lk_X5_76 rfl rfl ⟨Nat.le_of_ble_eq_true rfl, Nat.le_of_ble_eq_true rfl⟩ hP hD hS [] rfl rfl rfl hl.1 rfl (Nat.le_of_ble_eq_true rfl) dX5_told_75 ⟨Nat.le_of_ble_eq_true rfl, Nat.le_of_ble_eq_true rfl⟩) hP hD hS rfl rfl rfl (by decide) (fun r_1 u H locs h hP hD hS => ?_)
    try dsimp only at h
    replace hP := hP.sub (ws' := [cPB hPB hTX pb_textLength hPI hBO hLO hMT hSE, cBO hBO bo_width bo_height bo_floor bo_goals bo_live bo_boxes bo_person hBS bo_liveBesideInRow bo_liveBesideInColumn, cLO hLO lo_kept lo_moves lo_pushed hMA lo_end]) [0, 1, 2] rfl
    replace hD := hD.sub (ws' := [cPB hPB hTX pb_textLength hPI hBO hLO hMT hSE, cBO hBO bo_width bo_height bo_floor bo_goals bo_live bo_boxes bo_person hBS bo_liveBesideInRow bo_liveBesideInColumn, cLO hLO lo_kept lo_moves lo_pushed hMA lo_end]) [0, 1, 2] rfl rfl
    exact g_iret X () h hP hD hS dX5_told_78
  replace h := Eq.mp (if_neg hc2) h
  by_cases hc3 : v1 = (3 : Int32)
  · replace h := Eq.mp (if_pos hc3) h
    refine lv_tableIn (tgt := 79) X.1 X.2.1 dX5_told_1 (by rw [hc3]; decide) (by rw [hc3]; decide) (by rw [hc3] <;> rfl) (by decide) ?_
    refine lv_aload_n X.1 X.2.1 dX5_told_79 rfl (lv_at hl 0 rfl) ?_
    refine g_get X hP 0 5 3 (v := .ref hBO) rfl rfl inX5 (by decide) fl_X5_23 rfl dX5_told_80 ?_
    refine g_get X hP 1 0 3 (v := .long bo_goals) rfl rfl inX0 (by decide) fl_X5_135 rfl dX5_told_83 ?_
    refine g_ci (wr := [cPB hPB hTX pb_textLength hPI hBO hLO hMT hSE, cBO hBO bo_width bo_height bo_floor bo_goals bo_live bo_boxes bo_person hBS bo_liveBesideInRow bo_liveBesideInColumn, cLO hLO lo_kept lo_moves lo_pushed hMA lo_end]) X [] [0, 1, 2] (g_rS (As := [.long bo_goals]) (rest := []) X (c_JL_bitCount l G bo_goals _ h _) lk_X5_76 rfl rfl ⟨Nat.le_of_ble_eq_true rfl, Nat.le_of_ble_eq_true rfl⟩ hP hD hS [] rfl rfl rfl hl.1 rfl (Nat.le_of_ble_eq_true rfl) dX5_told_86 ⟨Nat.le_of_ble_eq_true rfl, Nat.le_of_ble_eq_true rfl⟩) hP hD hS rfl rfl rfl (by decide) (fun r_2 u H locs h hP hD hS => ?_)
    try dsimp only at h
    replace hP := hP.sub (ws' := [cPB hPB hTX pb_textLength hPI hBO hLO hMT hSE, cBO hBO bo_width bo_height bo_floor bo_goals bo_live bo_boxes bo_person hBS bo_liveBesideInRow bo_liveBesideInColumn, cLO hLO lo_kept lo_moves lo_pushed hMA lo_end]) [0, 1, 2] rfl
    replace hD := hD.sub (ws' := [cPB hPB hTX pb_textLength hPI hBO hLO hMT hSE, cBO hBO bo_width bo_height bo_floor bo_goals bo_live bo_boxes bo_person hBS bo_liveBesideInRow bo_liveBesideInColumn, cLO hLO lo_kept lo_moves lo_pushed hMA lo_end]) [0, 1, 2] rfl rfl
    exact g_iret X () h hP hD hS dX5_told_89
  replace h := Eq.mp (if_neg hc3) h
  by_cases hc4 : v1 = (4 : Int32)
  · replace h := Eq.mp (if_pos hc4) h
    refine lv_tableIn (tgt := 90) X.1 X.2.1 dX5_told_1 (by rw [hc4]; decide) (by rw [hc4]; decide) (by rw [hc4] <;> rfl) (by decide) ?_
    refine lv_aload_n X.1 X.2.1 dX5_told_90 rfl (lv_at hl 0 rfl) ?_
    refine g_get X hP 0 5 3 (v := .ref hBO) rfl rfl inX5 (by decide) fl_X5_23 rfl dX5_told_91 ?_
    refine g_get X hP 1 0 5 (v := .long bo_boxes) rfl rfl inX0 (by decide) fl_X5_72 rfl dX5_told_94 ?_
    refine lv_aload_n X.1 X.2.1 dX5_told_97 rfl (lv_at hl 0 rfl) ?_
    refine g_get X hP 0 5 3 (v := .ref hBO) rfl rfl inX5 (by decide) fl_X5_23 rfl dX5_told_98 ?_
    refine g_get X hP 1 0 3 (v := .long bo_goals) rfl rfl inX0 (by decide) fl_X5_135 rfl dX5_told_101 ?_
    refine lv_land X.1 X.2.1 dX5_told_104 ?_
    refine g_ci (wr := [cPB hPB hTX pb_textLength hPI hBO hLO hMT hSE, cBO hBO bo_width bo_height bo_floor bo_goals bo_live bo_boxes bo_person hBS bo_liveBesideInRow bo_liveBesideInColumn, cLO hLO lo_kept lo_moves lo_pushed hMA lo_end]) X [] [0, 1, 2] (g_rS (As := [.long (bo_boxes &&& bo_goals)]) (rest := []) X (c_JL_bitCount l G (bo_boxes &&& bo_goals) _ h _) lk_X5_76 rfl rfl ⟨Nat.le_of_ble_eq_true rfl, Nat.le_of_ble_eq_true rfl⟩ hP hD hS [] rfl rfl rfl hl.1 rfl (Nat.le_of_ble_eq_true rfl) dX5_told_105 ⟨Nat.le_of_ble_eq_true rfl, Nat.le_of_ble_eq_true rfl⟩) hP hD hS rfl rfl rfl (by decide) (fun r_3 u H locs h hP hD hS => ?_)
    try dsimp only at h
    replace hP := hP.sub (ws' := [cPB hPB hTX pb_textLength hPI hBO hLO hMT hSE, cBO hBO bo_width bo_height bo_floor bo_goals bo_live bo_boxes bo_person hBS bo_liveBesideInRow bo_liveBesideInColumn, cLO hLO lo_kept lo_moves lo_pushed hMA lo_end]) [0, 1, 2] rfl
    replace hD := hD.sub (ws' := [cPB hPB hTX pb_textLength hPI hBO hLO hMT hSE, cBO hBO bo_width bo_height bo_floor bo_goals bo_live bo_boxes bo_person hBS bo_liveBesideInRow bo_liveBesideInColumn, cLO hLO lo_kept lo_moves lo_pushed hMA lo_end]) [0, 1, 2] rfl rfl
    exact g_iret X () h hP hD hS dX5_told_108
  replace h := Eq.mp (if_neg hc4) h
  by_cases hc5 : v1 = (5 : Int32)
  · replace h := Eq.mp (if_pos hc5) h
    refine lv_tableIn (tgt := 109) X.1 X.2.1 dX5_told_1 (by rw [hc5]; decide) (by rw [hc5]; decide) (by rw [hc5] <;> rfl) (by decide) ?_
    refine lv_aload_n X.1 X.2.1 dX5_told_109 rfl (lv_at hl 0 rfl) ?_
    refine g_get X hP 0 5 4 (v := .ref hLO) rfl rfl inX5 (by decide) fl_X5_30 rfl dX5_told_110 ?_
    refine g_get X hP 2 1 1 (v := .int lo_moves) rfl rfl inX1 (by decide) fl_X5_138 rfl dX5_told_113 ?_
    exact g_iret X () h hP hD hS dX5_told_116
  replace h := Eq.mp (if_neg hc5) h
  by_cases hc6 : v1 = (6 : Int32)
  · replace h := Eq.mp (if_pos hc6) h
    refine lv_tableIn (tgt := 117) X.1 X.2.1 dX5_told_1 (by rw [hc6]; decide) (by rw [hc6]; decide) (by rw [hc6] <;> rfl) (by decide) ?_
    refine lv_aload_n X.1 X.2.1 dX5_told_117 rfl (lv_at hl 0 rfl) ?_
    refine g_get X hP 0 5 4 (v := .ref hLO) rfl rfl inX5 (by decide) fl_X5_30 rfl dX5_told_118 ?_
    refine g_get X hP 2 1 2 (v := .int lo_pushed) rfl rfl inX1 (by decide) fl_X5_141 rfl dX5_told_121 ?_
    exact g_iret X () h hP hD hS dX5_told_124
  replace h := Eq.mp (if_neg hc6) h
  by_cases hc7 : v1 = (7 : Int32)
  · replace h := Eq.mp (if_pos hc7) h
    refine lv_tableIn (tgt := 125) X.1 X.2.1 dX5_told_1 (by rw [hc7]; decide) (by rw [hc7]; decide) (by rw [hc7] <;> rfl) (by decide) ?_
    refine lv_aload_n X.1 X.2.1 dX5_told_125 rfl (lv_at hl 0 rfl) ?_
    refine g_get X hP 0 5 3 (v := .ref hBO) rfl rfl inX5 (by decide) fl_X5_23 rfl dX5_told_126 ?_
    refine g_ci (wr := [cPB hPB hTX pb_textLength hPI hBO hLO hMT hSE, cLO hLO lo_kept lo_moves lo_pushed hMA lo_end]) X [1] [0, 2] (g_rV (As := []) (rest := []) X (c_BO_isThere l G hBO hBS bo_width bo_height bo_floor bo_goals bo_live bo_boxes bo_person bo_liveBesideInRow bo_liveBesideInColumn _ h _) lk_X5_95 rfl rfl ⟨Nat.le_of_ble_eq_true rfl, Nat.le_of_ble_eq_true rfl⟩ hP hD hS [1] rfl rfl 1 0 rfl rfl rfl hl.1 rfl (Nat.le_of_ble_eq_true rfl) dX5_told_129 ⟨Nat.le_of_ble_eq_true rfl, Nat.le_of_ble_eq_true rfl⟩) hP hD hS rfl rfl rfl (by decide) (fun r_4 u H locs h hP hD hS => ?_)
    try dsimp only at h
    replace hP := hP.sub (ws' := [cPB hPB hTX pb_textLength hPI hBO hLO hMT hSE, cBO hBO bo_width bo_height bo_floor bo_goals bo_live bo_boxes bo_person hBS bo_liveBesideInRow bo_liveBesideInColumn, cLO hLO lo_kept lo_moves lo_pushed hMA lo_end]) [0, 2, 1] rfl
    replace hD := hD.sub (ws' := [cPB hPB hTX pb_textLength hPI hBO hLO hMT hSE, cBO hBO bo_width bo_height bo_floor bo_goals bo_live bo_boxes bo_person hBS bo_liveBesideInRow bo_liveBesideInColumn, cLO hLO lo_kept lo_moves lo_pushed hMA lo_end]) [0, 2, 1] rfl rfl
    refine lv_if_eq (tgt := 152) X.1 X.2.1 dX5_told_132 (by decide) (fun hc => ?_) (fun hc => ?_)
    · replace h := Eq.mp (if_pos hc) h
      refine lv_iconst (v := (-1 : Int32)) X.1 X.2.1 dX5_told_152 (by decide) ?_
      exact g_iret X () h hP hD hS dX5_told_153
    · replace h := Eq.mp (if_neg hc) h
      refine lv_aload_n X.1 X.2.1 dX5_told_135 rfl (lv_at hl 0 rfl) ?_
      refine g_get X hP 0 5 3 (v := .ref hBO) rfl rfl inX5 (by decide) fl_X5_23 rfl dX5_told_136 ?_
      refine lv_aload_n X.1 X.2.1 dX5_told_139 rfl (lv_at hl 0 rfl) ?_
      refine g_get X hP 0 5 3 (v := .ref hBO) rfl rfl inX5 (by decide) fl_X5_23 rfl dX5_told_140 ?_
      refine g_get X hP 1 0 6 (v := .long bo_person) rfl rfl inX0 (by decide) fl_X5_144 rfl dX5_told_143 ?_
      refine g_ci (wr := [cPB hPB hTX pb_textLength hPI hBO hLO hMT hSE, cLO hLO lo_kept lo_moves lo_pushed hMA lo_end]) X [1] [0, 2] (g_rV (As := [.long bo_person]) (rest := []) X (c_BO_cellOf l G hBO hBS bo_width bo_height bo_floor bo_goals bo_live bo_boxes bo_person bo_liveBesideInRow bo_liveBesideInColumn bo_person _ h _) lk_X5_147 rfl rfl ⟨Nat.le_of_ble_eq_true rfl, Nat.le_of_ble_eq_true rfl⟩ hP hD hS [1] rfl rfl 1 0 rfl rfl rfl hl.1 rfl (Nat.le_of_ble_eq_true rfl) dX5_told_146 ⟨Nat.le_of_ble_eq_true rfl, Nat.le_of_ble_eq_true rfl⟩) hP hD hS rfl rfl rfl (by decide) (fun r_5 u H locs h hP hD hS => ?_)
      try dsimp only at h
      replace hP := hP.sub (ws' := [cPB hPB hTX pb_textLength hPI hBO hLO hMT hSE, cBO hBO bo_width bo_height bo_floor bo_goals bo_live bo_boxes bo_person hBS bo_liveBesideInRow bo_liveBesideInColumn, cLO hLO lo_kept lo_moves lo_pushed hMA lo_end]) [0, 2, 1] rfl
      replace hD := hD.sub (ws' := [cPB hPB hTX pb_textLength hPI hBO hLO hMT hSE, cBO hBO bo_width bo_height bo_floor bo_goals bo_live bo_boxes bo_person hBS bo_liveBesideInRow bo_liveBesideInColumn, cLO hLO lo_kept lo_moves lo_pushed hMA lo_end]) [0, 2, 1] rfl rfl
      refine lv_goto (tgt := 153) X.1 X.2.1 dX5_told_149 (by decide) ?_
      exact g_iret X () h hP hD hS dX5_told_153
  replace h := Eq.mp (if_neg hc7) h
  by_cases hc8 : v1 = (8 : Int32)
  · replace h := Eq.mp (if_pos hc8) h
    refine lv_tableIn (tgt := 154) X.1 X.2.1 dX5_told_1 (by rw [hc8]; decide) (by rw [hc8]; decide) (by rw [hc8] <;> rfl) (by decide) ?_
    refine lv_aload_n X.1 X.2.1 dX5_told_154 rfl (lv_at hl 0 rfl) ?_
    refine g_get X hP 0 5 3 (v := .ref hBO) rfl rfl inX5 (by decide) fl_X5_23 rfl dX5_told_155 ?_
    refine g_ci (wr := [cPB hPB hTX pb_textLength hPI hBO hLO hMT hSE, cLO hLO lo_kept lo_moves lo_pushed hMA lo_end]) X [1] [0, 2] (g_rV (As := []) (rest := []) X (c_BO_isThere l G hBO hBS bo_width bo_height bo_floor bo_goals bo_live bo_boxes bo_person bo_liveBesideInRow bo_liveBesideInColumn _ h _) lk_X5_95 rfl rfl ⟨Nat.le_of_ble_eq_true rfl, Nat.le_of_ble_eq_true rfl⟩ hP hD hS [1] rfl rfl 1 0 rfl rfl rfl hl.1 rfl (Nat.le_of_ble_eq_true rfl) dX5_told_158 ⟨Nat.le_of_ble_eq_true rfl, Nat.le_of_ble_eq_true rfl⟩) hP hD hS rfl rfl rfl (by decide) (fun r_6 u H locs h hP hD hS => ?_)
    try dsimp only at h
    replace hP := hP.sub (ws' := [cPB hPB hTX pb_textLength hPI hBO hLO hMT hSE, cBO hBO bo_width bo_height bo_floor bo_goals bo_live bo_boxes bo_person hBS bo_liveBesideInRow bo_liveBesideInColumn, cLO hLO lo_kept lo_moves lo_pushed hMA lo_end]) [0, 2, 1] rfl
    replace hD := hD.sub (ws' := [cPB hPB hTX pb_textLength hPI hBO hLO hMT hSE, cBO hBO bo_width bo_height bo_floor bo_goals bo_live bo_boxes bo_person hBS bo_liveBesideInRow bo_liveBesideInColumn, cLO hLO lo_kept lo_moves lo_pushed hMA lo_end]) [0, 2, 1] rfl rfl
    refine lv_if_eq (tgt := 185) X.1 X.2.1 dX5_told_161 (by decide) (fun hc => ?_) (fun hc => ?_)
    · replace h := Eq.mp (if_pos hc) h
      refine lv_iconst (v := (0 : Int32)) X.1 X.2.1 dX5_told_185 (by decide) ?_
      exact g_iret X () h hP hD hS dX5_told_186
    · replace h := Eq.mp (if_neg hc) h
      refine lv_aload_n X.1 X.2.1 dX5_told_164 rfl (lv_at hl 0 rfl) ?_
      refine g_get X hP 0 5 3 (v := .ref hBO) rfl rfl inX5 (by decide) fl_X5_23 rfl dX5_told_165 ?_
      refine lv_aload_n X.1 X.2.1 dX5_told_168 rfl (lv_at hl 0 rfl) ?_
      refine g_get X hP 0 5 3 (v := .ref hBO) rfl rfl inX5 (by decide) fl_X5_23 rfl dX5_told_169 ?_
      refine g_get X hP 1 0 5 (v := .long bo_boxes) rfl rfl inX0 (by decide) fl_X5_72 rfl dX5_told_172 ?_
      refine g_ci (wr := [cPB hPB hTX pb_textLength hPI hBO hLO hMT hSE, cLO hLO lo_kept lo_moves lo_pushed hMA lo_end]) X [1] [0, 2] (g_rV (As := [.long bo_boxes]) (rest := []) X (c_BO_isDone l G hBO hBS bo_width bo_height bo_floor bo_goals bo_live bo_boxes bo_person bo_liveBesideInRow bo_liveBesideInColumn bo_boxes _ h _) lk_X5_150 rfl rfl ⟨Nat.le_of_ble_eq_true rfl, Nat.le_of_ble_eq_true rfl⟩ hP hD hS [1] rfl rfl 1 0 rfl rfl rfl hl.1 rfl (Nat.le_of_ble_eq_true rfl) dX5_told_175 ⟨Nat.le_of_ble_eq_true rfl, Nat.le_of_ble_eq_true rfl⟩) hP hD hS rfl rfl rfl (by decide) (fun r_7 u H locs h hP hD hS => ?_)
      try dsimp only at h
      replace hP := hP.sub (ws' := [cPB hPB hTX pb_textLength hPI hBO hLO hMT hSE, cBO hBO bo_width bo_height bo_floor bo_goals bo_live bo_boxes bo_person hBS bo_liveBesideInRow bo_liveBesideInColumn, cLO hLO lo_kept lo_moves lo_pushed hMA lo_end]) [0, 2, 1] rfl
      replace hD := hD.sub (ws' := [cPB hPB hTX pb_textLength hPI hBO hLO hMT hSE, cBO hBO bo_width bo_height bo_floor bo_goals bo_live bo_boxes bo_person hBS bo_liveBesideInRow bo_liveBesideInColumn, cLO hLO lo_kept lo_moves lo_pushed hMA lo_end]) [0, 2, 1] rfl rfl
      refine lv_if_eq (tgt := 185) X.1 X.2.1 dX5_told_178 (by decide) (fun hc => ?_) (fun hc => ?_)
      · replace h := Eq.mp (if_pos hc) h
        refine lv_iconst (v := (0 : Int32)) X.1 X.2.1 dX5_told_185 (by decide) ?_
        exact g_iret X () h hP hD hS dX5_told_186
      · replace h := Eq.mp (if_neg hc) h
        refine lv_iconst (v := (1 : Int32)) X.1 X.2.1 dX5_told_181 (by decide) ?_
        refine lv_goto (tgt := 186) X.1 X.2.1 dX5_told_182 (by decide) ?_
        exact g_iret X () h hP hD hS dX5_told_186
  replace h := Eq.mp (if_neg hc8) h
  refine lv_tableOut (tgt := 187) X.1 X.2.1 dX5_told_1 (by have q0 := lv_neT (a := 0) hc0 (by decide); have q1 := lv_neT (a := 1) hc1 (by decide); have q2 := lv_neT (a := 2) hc2 (by decide); have q3 := lv_neT (a := 3) hc3 (by decide); have q4 := lv_neT (a := 4) hc4 (by decide); have q5 := lv_neT (a := 5) hc5 (by decide); have q6 := lv_neT (a := 6) hc6 (by decide); have q7 := lv_neT (a := 7) hc7 (by decide); have q8 := lv_neT (a := 8) hc8 (by decide); omega) (by decide) ?_
  refine lv_iconst (v := (-1 : Int32)) X.1 X.2.1 dX5_told_187 (by decide) ?_
  exact g_iret X () h hP hD hS dX5_told_188
abbrev rm_PB_picture : Room := { frames := 1, cells := 0, slots := 0, locals := 23 }
set_option maxHeartbeats 4000000 in
set_option maxRecDepth 100000 in
theorem c_PB_picture (l : Launch) (G : gEnv) (hPB : Nat) (hTX : Nat) (hPI : Nat) (hBO : Nat) (hBS : Nat) (hLO : Nat) (hMT : Nat) (hSE : Nat) (pb_textLength : Int32) (bo_width : Int32) (bo_height : Int32) (bo_floor : Int64) (bo_goals : Int64) (bo_live : Int64) (bo_boxes : Int64) (bo_person : Int64) (bo_liveBesideInRow : Int64) (bo_liveBesideInColumn : Int64) (v1 : Int32) (post : Int32 → Prop) (h : PB_picture bo_width bo_height bo_floor bo_goals bo_boxes bo_person v1 post) (sz : Nat) : Met l yX5_picture (Cond.code yX5_picture cX5_picture 4 (some .int) :: wAll) (rm_PB_picture) (gPc G [.ref hPB, .int v1] [cPB hPB hTX pb_textLength hPI hBO hLO hMT hSE, cBO hBO bo_width bo_height bo_floor bo_goals bo_live bo_boxes bo_person hBS bo_liveBesideInRow bo_liveBesideInColumn] sz) (gQi G (fun (r : Int32) (u : Unit) => post r ) (fun (u : Unit) => [cPB hPB hTX pb_textLength hPI hBO hLO hMT hSE, cBO hBO bo_width bo_height bo_floor bo_goals bo_live bo_boxes bo_person hBS bo_liveBesideInRow bo_liveBesideInColumn]) (va_A [cPB hPB hTX pb_textLength hPI hBO hLO hMT hSE, cBO hBO bo_width bo_height bo_floor bo_goals bo_live bo_boxes bo_person hBS bo_liveBesideInRow bo_liveBesideInColumn] sz)) 0 0 (va_A [cPB hPB hTX pb_textLength hPI hBO hLO hMT hSE, cBO hBO bo_width bo_height bo_floor bo_goals bo_live bo_boxes bo_person hBS bo_liveBesideInRow bo_liveBesideInColumn] sz) := by
  refine Met.ofW (cc := cX5_picture) (maxL := 4) (ret := (some .int)) (by decide) rfl ?_
  intro p e s m args below meth c s₁ B hml hv
  obtain ⟨rfl, hsz, hP, hK, hD0⟩ := hv
  subst hsz
  have X := gX.ofB (ws := [cPB hPB hTX pb_textLength hPI hBO hLO hMT hSE, cBO hBO bo_width bo_height bo_floor bo_goals bo_live bo_boxes bo_person hBS bo_liveBesideInRow bo_liveBesideInColumn]) B hml hK hD0
  have hD := hD0.self (sz := s.heap.size)
  generalize hAe : va_A [cPB hPB hTX pb_textLength hPI hBO hLO hMT hSE, cBO hBO bo_width bo_height bo_floor bo_goals bo_live bo_boxes bo_person hBS bo_liveBesideInRow bo_liveBesideInColumn] s.heap.size = A at X hD ⊢
  have hS : va_S A s.heap s.heap [] := va_S.rf
  have hl := lv_entry ([.ref hPB, .int v1]) (n := 4) (Nat.le_of_ble_eq_true rfl)
  rw [lg_entry_eq]
  generalize (lg_sl ([.ref hPB, .int v1]) ++ List.replicate (4 - (lg_sl ([.ref hPB, .int v1])).length) Slot.unset).toArray = ls at hl ⊢
  have hl : lv_has ls 4 [(0, .ref hPB), (1, .int v1)] := hl
  dsimp only [headSpec]
  unfold PB_picture at h
  refine lv_aload_n X.1 X.2.1 dX5_picture_0 rfl (lv_at hl 0 rfl) ?_
  refine g_get X hP 0 5 3 (v := .ref hBO) rfl rfl inX5 (by decide) fl_X5_23 rfl dX5_picture_1 ?_
  refine g_get X hP 1 0 0 (v := .int bo_width) rfl rfl inX0 (by decide) fl_X5_129 rfl dX5_picture_4 ?_
  refine lv_iconst (v := (1 : Int32)) X.1 X.2.1 dX5_picture_7 (by decide) ?_
  refine lv_iadd X.1 X.2.1 dX5_picture_8 ?_
  refine lv_topi (fun v2_1 e_v2_1 => ?_)
  replace h := h v2_1 e_v2_1
  refine lv_istore_n (lv' := [(2, .int v2_1), (0, .ref hPB), (1, .int v1)]) X.1 X.2.1 dX5_picture_9 rfl hl (by decide) rfl (fun ls hl => ?_)
  refine lv_iload_n X.1 X.2.1 dX5_picture_10 rfl (lv_at hl 2 rfl) ?_
  refine lv_if_lt (tgt := 27) X.1 X.2.1 dX5_picture_11 (by decide) (fun hc => ?_) (fun hc => ?_)
  · replace h := Eq.mp (if_pos hc) h
    refine lv_iconst (v := (-1 : Int32)) X.1 X.2.1 dX5_picture_27 (by decide) ?_
    exact g_iret X () h hP hD hS dX5_picture_28
  · replace h := Eq.mp (if_neg hc) h
    refine lv_iload_n X.1 X.2.1 dX5_picture_14 rfl (lv_at hl 2 rfl) ?_
    refine lv_iload_n X.1 X.2.1 dX5_picture_15 rfl (lv_at hl 0 rfl) ?_
    refine lv_aload_n X.1 X.2.1 dX5_picture_16 rfl (lv_at hl 1 rfl) ?_
    refine g_get X hP 0 5 3 (v := .ref hBO) rfl rfl inX5 (by decide) fl_X5_23 rfl dX5_picture_17 ?_
    refine g_get X hP 1 0 1 (v := .int bo_height) rfl rfl inX0 (by decide) fl_X5_132 rfl dX5_picture_20 ?_
    refine lv_imul X.1 X.2.1 dX5_picture_23 ?_
    refine lv_icmp_lt (tgt := 29) X.1 X.2.1 dX5_picture_24 (by decide) (fun hc => ?_) (fun hc => ?_)
    · replace h := Eq.mp (if_pos hc) h
      refine lv_iload_n X.1 X.2.1 dX5_picture_29 rfl (lv_at hl 2 rfl) ?_
      refine lv_iload_n X.1 X.2.1 dX5_picture_30 rfl (lv_at hl 0 rfl) ?_
      obtain ⟨hne, h⟩ := h
      refine lv_irem X.1 X.2.1 dX5_picture_31 hne ?_
      refine lv_topi (fun v3_2 e_v3_2 => ?_)
      replace h := h v3_2 e_v3_2
      refine lv_istore_n (lv' := [(3, .int v3_2), (2, .int v2_1), (0, .ref hPB), (1, .int v1)]) X.1 X.2.1 dX5_picture_32 rfl hl (by decide) rfl (fun ls hl => ?_)
      refine lv_iload_n X.1 X.2.1 dX5_picture_33 rfl (lv_at hl 0 rfl) ?_
      refine lv_aload_n X.1 X.2.1 dX5_picture_34 rfl (lv_at hl 2 rfl) ?_
      refine g_get X hP 0 5 3 (v := .ref hBO) rfl rfl inX5 (by decide) fl_X5_23 rfl dX5_picture_35 ?_
      refine g_get X hP 1 0 0 (v := .int bo_width) rfl rfl inX0 (by decide) fl_X5_129 rfl dX5_picture_38 ?_
      refine lv_icmp_ne (tgt := 49) X.1 X.2.1 dX5_picture_41 (by decide) (fun hc => ?_) (fun hc => ?_)
      · replace h := Eq.mp (if_neg hc) h
        refine lv_aload_n X.1 X.2.1 dX5_picture_49 rfl (lv_at hl 2 rfl) ?_
        refine g_get X hP 0 5 3 (v := .ref hBO) rfl rfl inX5 (by decide) fl_X5_23 rfl dX5_picture_50 ?_
        refine lv_iload_n X.1 X.2.1 dX5_picture_53 rfl (lv_at hl 0 rfl) ?_
        refine lv_iload_n X.1 X.2.1 dX5_picture_54 rfl (lv_at hl 3 rfl) ?_
        refine lv_iload_n X.1 X.2.1 dX5_picture_55 rfl (lv_at hl 1 rfl) ?_
        obtain ⟨hne, h⟩ := h
        refine lv_idiv X.1 X.2.1 dX5_picture_56 hne ?_
        refine g_cl (wr := [cPB hPB hTX pb_textLength hPI hBO hLO hMT hSE, cBO hBO bo_width bo_height bo_floor bo_goals bo_live bo_boxes bo_person hBS bo_liveBesideInRow bo_liveBesideInColumn]) X [] [0, 1] (g_rS (As := [.int v3_2, .int (v1 / v2_1)]) (rest := [.ref hBO]) X (c_PB_cellAt l G v3_2 (v1 / v2_1) _ h _) lk_X5_154 rfl rfl ⟨Nat.le_of_ble_eq_true rfl, Nat.le_of_ble_eq_true rfl⟩ hP hD hS [] rfl rfl rfl hl.1 rfl (Nat.le_of_ble_eq_true rfl) dX5_picture_57 ⟨Nat.le_of_ble_eq_true rfl, Nat.le_of_ble_eq_true rfl⟩) hP hD hS rfl rfl rfl (by decide) (fun r_3 u H locs h hP hD hS => ?_)
        try dsimp only at h
        replace hP := hP.sub (ws' := [cPB hPB hTX pb_textLength hPI hBO hLO hMT hSE, cBO hBO bo_width bo_height bo_floor bo_goals bo_live bo_boxes bo_person hBS bo_liveBesideInRow bo_liveBesideInColumn]) [0, 1] rfl
        replace hD := hD.sub (ws' := [cPB hPB hTX pb_textLength hPI hBO hLO hMT hSE, cBO hBO bo_width bo_height bo_floor bo_goals bo_live bo_boxes bo_person hBS bo_liveBesideInRow bo_liveBesideInColumn]) [0, 1] rfl rfl
        refine g_ci (wr := [cPB hPB hTX pb_textLength hPI hBO hLO hMT hSE]) X [1] [0] (g_rV (As := [.long r_3]) (rest := []) X (c_BO_signAt l G hBO hBS bo_width bo_height bo_floor bo_goals bo_live bo_boxes bo_person bo_liveBesideInRow bo_liveBesideInColumn r_3 _ h _) lk_X5_158 rfl rfl ⟨Nat.le_of_ble_eq_true rfl, Nat.le_of_ble_eq_true rfl⟩ hP hD hS [1] rfl rfl 1 0 rfl rfl rfl hl.1 rfl (Nat.le_of_ble_eq_true rfl) dX5_picture_60 ⟨Nat.le_of_ble_eq_true rfl, Nat.le_of_ble_eq_true rfl⟩) hP hD hS rfl rfl rfl (by decide) (fun r_4 u H locs h hP hD hS => ?_)
        try dsimp only at h
        replace hP := hP.sub (ws' := [cPB hPB hTX pb_textLength hPI hBO hLO hMT hSE, cBO hBO bo_width bo_height bo_floor bo_goals bo_live bo_boxes bo_person hBS bo_liveBesideInRow bo_liveBesideInColumn]) [0, 1] rfl
        replace hD := hD.sub (ws' := [cPB hPB hTX pb_textLength hPI hBO hLO hMT hSE, cBO hBO bo_width bo_height bo_floor bo_goals bo_live bo_boxes bo_person hBS bo_liveBesideInRow bo_liveBesideInColumn]) [0, 1] rfl rfl
        exact g_iret X () h hP hD hS dX5_picture_63
      · replace h := Eq.mp (if_pos hc) h
        refine lv_bipush (v := (10 : Int32)) X.1 X.2.1 dX5_picture_44 (by decide) ?_
        refine lv_goto (tgt := 63) X.1 X.2.1 dX5_picture_46 (by decide) ?_
        exact g_iret X () h hP hD hS dX5_picture_63
    · replace h := Eq.mp (if_neg hc) h
      refine lv_iconst (v := (-1 : Int32)) X.1 X.2.1 dX5_picture_27 (by decide) ?_
      exact g_iret X () h hP hD hS dX5_picture_28
abbrev rm_PB_letter : Room := { frames := 6, cells := 0, slots := 0, locals := 135 }
set_option maxHeartbeats 4000000 in
set_option maxRecDepth 100000 in
theorem c_PB_letter (l : Launch) (G : gEnv) (hPB : Nat) (hTX : Nat) (hPI : Nat) (hBO : Nat) (hLO : Nat) (hMA : Nat) (hMT : Nat) (hSE : Nat) (pb_textLength : Int32) (lo_kept : Int32) (lo_moves : Int32) (lo_pushed : Int32) (lo_end : Int32) (aMA : Nat → Int32) (v1 : Int32) (post : Int32 → Prop) (h : PB_letter lo_kept lo_end aMA v1 post) (sz : Nat) : Met l yX5_letter (Cond.code yX5_letter cX5_letter 2 (some .int) :: wAll) (rm_PB_letter) (gPc G [.ref hPB, .int v1] [cPB hPB hTX pb_textLength hPI hBO hLO hMT hSE, cLO hLO lo_kept lo_moves lo_pushed hMA lo_end, cI G hMA 500 aMA] sz) (gQi G (fun (r : Int32) (u : Unit) => post r ) (fun (u : Unit) => [cPB hPB hTX pb_textLength hPI hBO hLO hMT hSE, cLO hLO lo_kept lo_moves lo_pushed hMA lo_end, cI G hMA 500 aMA]) (va_A [cPB hPB hTX pb_textLength hPI hBO hLO hMT hSE, cLO hLO lo_kept lo_moves lo_pushed hMA lo_end, cI G hMA 500 aMA] sz)) 0 0 (va_A [cPB hPB hTX pb_textLength hPI hBO hLO hMT hSE, cLO hLO lo_kept lo_moves lo_pushed hMA lo_end, cI G hMA 500 aMA] sz) := by
  refine Met.ofW (cc := cX5_letter) (maxL := 2) (ret := (some .int)) (by decide) rfl ?_
  intro p e s m args below meth c s₁ B hml hv
  obtain ⟨rfl, hsz, hP, hK, hD0⟩ := hv
  subst hsz
  have X := gX.ofB (ws := [cPB hPB hTX pb_textLength hPI hBO hLO hMT hSE, cLO hLO lo_kept lo_moves lo_pushed hMA lo_end, cI G hMA 500 aMA]) B hml hK hD0
  have hD := hD0.self (sz := s.heap.size)
  generalize hAe : va_A [cPB hPB hTX pb_textLength hPI hBO hLO hMT hSE, cLO hLO lo_kept lo_moves lo_pushed hMA lo_end, cI G hMA 500 aMA] s.heap.size = A at X hD ⊢
  have hS : va_S A s.heap s.heap [] := va_S.rf
  have hl := lv_entry ([.ref hPB, .int v1]) (n := 2) (Nat.le_of_ble_eq_true rfl)
  rw [lg_entry_eq]
  generalize (lg_sl ([.ref hPB, .int v1]) ++ List.replicate (2 - (lg_sl ([.ref hPB, .int v1])).length) Slot.unset).toArray = ls at hl ⊢
  have hl : lv_has ls 2 [(0, .ref hPB), (1, .int v1)] := hl
  dsimp only [headSpec]
  unfold PB_letter at h
  refine lv_iload_n X.1 X.2.1 dX5_letter_0 rfl (lv_at hl 1 rfl) ?_
  refine lv_if_lt (tgt := 15) X.1 X.2.1 dX5_letter_1 (by decide) (fun hc => ?_) (fun hc => ?_)
  · replace h := Eq.mp (if_pos hc) h
    refine lv_iconst (v := (-1 : Int32)) X.1 X.2.1 dX5_letter_15 (by decide) ?_
    refine lv_goto (tgt := 27) X.1 X.2.1 dX5_letter_16 (by decide) ?_
    exact g_iret X () h hP hD hS dX5_letter_27
  · replace h := Eq.mp (if_neg hc) h
    refine lv_iload_n X.1 X.2.1 dX5_letter_4 rfl (lv_at hl 1 rfl) ?_
    refine lv_aload_n X.1 X.2.1 dX5_letter_5 rfl (lv_at hl 0 rfl) ?_
    refine g_get X hP 0 5 4 (v := .ref hLO) rfl rfl inX5 (by decide) fl_X5_30 rfl dX5_letter_6 ?_
    refine g_get X hP 1 1 0 (v := .int lo_kept) rfl rfl inX1 (by decide) fl_X5_113 rfl dX5_letter_9 ?_
    refine lv_icmp_lt (tgt := 19) X.1 X.2.1 dX5_letter_12 (by decide) (fun hc => ?_) (fun hc => ?_)
    · replace h := Eq.mp (if_pos hc) h
      refine lv_aload_n X.1 X.2.1 dX5_letter_19 rfl (lv_at hl 0 rfl) ?_
      refine g_get X hP 0 5 4 (v := .ref hLO) rfl rfl inX5 (by decide) fl_X5_30 rfl dX5_letter_20 ?_
      refine lv_iload_n X.1 X.2.1 dX5_letter_23 rfl (lv_at hl 1 rfl) ?_
      refine g_ci (wr := [cPB hPB hTX pb_textLength hPI hBO hLO hMT hSE]) X [1, 2] [0] (g_rV (As := [.int v1]) (rest := []) X (c_LO_letterAt l G hLO hMA lo_kept lo_moves lo_pushed lo_end aMA v1 _ h _) lk_X5_161 rfl rfl ⟨Nat.le_of_ble_eq_true rfl, Nat.le_of_ble_eq_true rfl⟩ hP hD hS [1, 2] rfl rfl 1 1 rfl rfl rfl hl.1 rfl (Nat.le_of_ble_eq_true rfl) dX5_letter_24 ⟨Nat.le_of_ble_eq_true rfl, Nat.le_of_ble_eq_true rfl⟩) hP hD hS rfl rfl rfl (by decide) (fun r_1 u H locs h hP hD hS => ?_)
      try dsimp only at h
      replace hP := hP.sub (ws' := [cPB hPB hTX pb_textLength hPI hBO hLO hMT hSE, cLO hLO lo_kept lo_moves lo_pushed hMA lo_end, cI G hMA 500 aMA]) [0, 1, 2] rfl
      replace hD := hD.sub (ws' := [cPB hPB hTX pb_textLength hPI hBO hLO hMT hSE, cLO hLO lo_kept lo_moves lo_pushed hMA lo_end, cI G hMA 500 aMA]) [0, 1, 2] rfl rfl
      exact g_iret X () h hP hD hS dX5_letter_27
    · replace h := Eq.mp (if_neg hc) h
      refine lv_iconst (v := (-1 : Int32)) X.1 X.2.1 dX5_letter_15 (by decide) ?_
      refine lv_goto (tgt := 27) X.1 X.2.1 dX5_letter_16 (by decide) ?_
      exact g_iret X () h hP hD hS dX5_letter_27
abbrev rm_PB_reach : Room := { frames := 2, cells := 0, slots := 0, locals := 54 }
set_option maxHeartbeats 4000000 in
set_option maxRecDepth 100000 in
theorem c_PB_reach (l : Launch) (G : gEnv) (hPB : Nat) (hTX : Nat) (hPI : Nat) (hBO : Nat) (hBS : Nat) (hLO : Nat) (hMT : Nat) (hSE : Nat) (pb_textLength : Int32) (bo_width : Int32) (bo_height : Int32) (bo_floor : Int64) (bo_goals : Int64) (bo_live : Int64) (bo_boxes : Int64) (bo_person : Int64) (bo_liveBesideInRow : Int64) (bo_liveBesideInColumn : Int64) (post : Int32 → Prop) (h : PB_reach bo_floor bo_boxes bo_person post) (sz : Nat) : Met l yX5_reach (Cond.code yX5_reach cX5_reach 1 (some .int) :: wAll) (rm_PB_reach) (gPc G [.ref hPB] [cPB hPB hTX pb_textLength hPI hBO hLO hMT hSE, cBO hBO bo_width bo_height bo_floor bo_goals bo_live bo_boxes bo_person hBS bo_liveBesideInRow bo_liveBesideInColumn] sz) (gQi G (fun (r : Int32) (u : Unit) => post r ) (fun (u : Unit) => [cPB hPB hTX pb_textLength hPI hBO hLO hMT hSE, cBO hBO bo_width bo_height bo_floor bo_goals bo_live bo_boxes bo_person hBS bo_liveBesideInRow bo_liveBesideInColumn]) (va_A [cPB hPB hTX pb_textLength hPI hBO hLO hMT hSE, cBO hBO bo_width bo_height bo_floor bo_goals bo_live bo_boxes bo_person hBS bo_liveBesideInRow bo_liveBesideInColumn] sz)) 0 0 (va_A [cPB hPB hTX pb_textLength hPI hBO hLO hMT hSE, cBO hBO bo_width bo_height bo_floor bo_goals bo_live bo_boxes bo_person hBS bo_liveBesideInRow bo_liveBesideInColumn] sz) := by
  refine Met.ofW (cc := cX5_reach) (maxL := 1) (ret := (some .int)) (by decide) rfl ?_
  intro p e s m args below meth c s₁ B hml hv
  obtain ⟨rfl, hsz, hP, hK, hD0⟩ := hv
  subst hsz
  have X := gX.ofB (ws := [cPB hPB hTX pb_textLength hPI hBO hLO hMT hSE, cBO hBO bo_width bo_height bo_floor bo_goals bo_live bo_boxes bo_person hBS bo_liveBesideInRow bo_liveBesideInColumn]) B hml hK hD0
  have hD := hD0.self (sz := s.heap.size)
  generalize hAe : va_A [cPB hPB hTX pb_textLength hPI hBO hLO hMT hSE, cBO hBO bo_width bo_height bo_floor bo_goals bo_live bo_boxes bo_person hBS bo_liveBesideInRow bo_liveBesideInColumn] s.heap.size = A at X hD ⊢
  have hS : va_S A s.heap s.heap [] := va_S.rf
  have hl := lv_entry ([.ref hPB]) (n := 1) (Nat.le_of_ble_eq_true rfl)
  rw [lg_entry_eq]
  generalize (lg_sl ([.ref hPB]) ++ List.replicate (1 - (lg_sl ([.ref hPB])).length) Slot.unset).toArray = ls at hl ⊢
  have hl : lv_has ls 1 [(0, .ref hPB)] := hl
  dsimp only [headSpec]
  unfold PB_reach at h
  refine lv_aload_n X.1 X.2.1 dX5_reach_0 rfl (lv_at hl 0 rfl) ?_
  refine g_get X hP 0 5 3 (v := .ref hBO) rfl rfl inX5 (by decide) fl_X5_23 rfl dX5_reach_1 ?_
  refine lv_aload_n X.1 X.2.1 dX5_reach_4 rfl (lv_at hl 0 rfl) ?_
  refine g_get X hP 0 5 3 (v := .ref hBO) rfl rfl inX5 (by decide) fl_X5_23 rfl dX5_reach_5 ?_
  refine g_get X hP 1 0 6 (v := .long bo_person) rfl rfl inX0 (by decide) fl_X5_144 rfl dX5_reach_8 ?_
  refine lv_aload_n X.1 X.2.1 dX5_reach_11 rfl (lv_at hl 0 rfl) ?_
  refine g_get X hP 0 5 3 (v := .ref hBO) rfl rfl inX5 (by decide) fl_X5_23 rfl dX5_reach_12 ?_
  refine g_get X hP 1 0 5 (v := .long bo_boxes) rfl rfl inX0 (by decide) fl_X5_72 rfl dX5_reach_15 ?_
  refine g_cl (wr := [cPB hPB hTX pb_textLength hPI hBO hLO hMT hSE]) X [1] [0] (g_rV (As := [.long bo_person, .long bo_boxes]) (rest := []) X (c_BO_reachOf l G hBO hBS bo_width bo_height bo_floor bo_goals bo_live bo_boxes bo_person bo_liveBesideInRow bo_liveBesideInColumn bo_person bo_boxes _ h _) lk_X5_164 rfl rfl ⟨Nat.le_of_ble_eq_true rfl, Nat.le_of_ble_eq_true rfl⟩ hP hD hS [1] rfl rfl 1 0 rfl rfl rfl hl.1 rfl (Nat.le_of_ble_eq_true rfl) dX5_reach_18 ⟨Nat.le_of_ble_eq_true rfl, Nat.le_of_ble_eq_true rfl⟩) hP hD hS rfl rfl rfl (by decide) (fun r_1 u H locs h hP hD hS => ?_)
  try dsimp only at h
  replace hP := hP.sub (ws' := [cPB hPB hTX pb_textLength hPI hBO hLO hMT hSE, cBO hBO bo_width bo_height bo_floor bo_goals bo_live bo_boxes bo_person hBS bo_liveBesideInRow bo_liveBesideInColumn]) [0, 1] rfl
  replace hD := hD.sub (ws' := [cPB hPB hTX pb_textLength hPI hBO hLO hMT hSE, cBO hBO bo_width bo_height bo_floor bo_goals bo_live bo_boxes bo_person hBS bo_liveBesideInRow bo_liveBesideInColumn]) [0, 1] rfl rfl
  refine g_ci (wr := [cPB hPB hTX pb_textLength hPI hBO hLO hMT hSE, cBO hBO bo_width bo_height bo_floor bo_goals bo_live bo_boxes bo_person hBS bo_liveBesideInRow bo_liveBesideInColumn]) X [] [0, 1] (g_rS (As := [.long r_1]) (rest := []) X (c_JL_bitCount l G r_1 _ h _) lk_X5_76 rfl rfl ⟨Nat.le_of_ble_eq_true rfl, Nat.le_of_ble_eq_true rfl⟩ hP hD hS [] rfl rfl rfl hl.1 rfl (Nat.le_of_ble_eq_true rfl) dX5_reach_21 ⟨Nat.le_of_ble_eq_true rfl, Nat.le_of_ble_eq_true rfl⟩) hP hD hS rfl rfl rfl (by decide) (fun r_2 u H locs h hP hD hS => ?_)
  try dsimp only at h
  replace hP := hP.sub (ws' := [cPB hPB hTX pb_textLength hPI hBO hLO hMT hSE, cBO hBO bo_width bo_height bo_floor bo_goals bo_live bo_boxes bo_person hBS bo_liveBesideInRow bo_liveBesideInColumn]) [0, 1] rfl
  replace hD := hD.sub (ws' := [cPB hPB hTX pb_textLength hPI hBO hLO hMT hSE, cBO hBO bo_width bo_height bo_floor bo_goals bo_live bo_boxes bo_person hBS bo_liveBesideInRow bo_liveBesideInColumn]) [0, 1] rfl rfl
  exact g_iret X () h hP hD hS dX5_reach_24
abbrev rm_PB_fast : Room := { frames := 2, cells := 0, slots := 0, locals := 55 }
set_option maxHeartbeats 4000000 in
set_option maxRecDepth 100000 in
theorem c_PB_fast (l : Launch) (G : gEnv) (hPB : Nat) (hTX : Nat) (hPI : Nat) (hBO : Nat) (hBS : Nat) (hLO : Nat) (hMT : Nat) (hSE : Nat) (pb_textLength : Int32) (bo_width : Int32) (bo_height : Int32) (bo_floor : Int64) (bo_goals : Int64) (bo_live : Int64) (bo_boxes : Int64) (bo_person : Int64) (bo_liveBesideInRow : Int64) (bo_liveBesideInColumn : Int64) (post : Int32 → Prop) (h : PB_fast bo_floor bo_boxes bo_liveBesideInRow bo_liveBesideInColumn post) (sz : Nat) : Met l yX5_fast (Cond.code yX5_fast cX5_fast 1 (some .int) :: wAll) (rm_PB_fast) (gPc G [.ref hPB] [cPB hPB hTX pb_textLength hPI hBO hLO hMT hSE, cBO hBO bo_width bo_height bo_floor bo_goals bo_live bo_boxes bo_person hBS bo_liveBesideInRow bo_liveBesideInColumn] sz) (gQi G (fun (r : Int32) (u : Unit) => post r ) (fun (u : Unit) => [cPB hPB hTX pb_textLength hPI hBO hLO hMT hSE, cBO hBO bo_width bo_height bo_floor bo_goals bo_live bo_boxes bo_person hBS bo_liveBesideInRow bo_liveBesideInColumn]) (va_A [cPB hPB hTX pb_textLength hPI hBO hLO hMT hSE, cBO hBO bo_width bo_height bo_floor bo_goals bo_live bo_boxes bo_person hBS bo_liveBesideInRow bo_liveBesideInColumn] sz)) 0 0 (va_A [cPB hPB hTX pb_textLength hPI hBO hLO hMT hSE, cBO hBO bo_width bo_height bo_floor bo_goals bo_live bo_boxes bo_person hBS bo_liveBesideInRow bo_liveBesideInColumn] sz) := by
  refine Met.ofW (cc := cX5_fast) (maxL := 1) (ret := (some .int)) (by decide) rfl ?_
  intro p e s m args below meth c s₁ B hml hv
  obtain ⟨rfl, hsz, hP, hK, hD0⟩ := hv
  subst hsz
  have X := gX.ofB (ws := [cPB hPB hTX pb_textLength hPI hBO hLO hMT hSE, cBO hBO bo_width bo_height bo_floor bo_goals bo_live bo_boxes bo_person hBS bo_liveBesideInRow bo_liveBesideInColumn]) B hml hK hD0
  have hD := hD0.self (sz := s.heap.size)
  generalize hAe : va_A [cPB hPB hTX pb_textLength hPI hBO hLO hMT hSE, cBO hBO bo_width bo_height bo_floor bo_goals bo_live bo_boxes bo_person hBS bo_liveBesideInRow bo_liveBesideInColumn] s.heap.size = A at X hD ⊢
  have hS : va_S A s.heap s.heap [] := va_S.rf
  have hl := lv_entry ([.ref hPB]) (n := 1) (Nat.le_of_ble_eq_true rfl)
  rw [lg_entry_eq]
  generalize (lg_sl ([.ref hPB]) ++ List.replicate (1 - (lg_sl ([.ref hPB])).length) Slot.unset).toArray = ls at hl ⊢
  have hl : lv_has ls 1 [(0, .ref hPB)] := hl
  dsimp only [headSpec]
  unfold PB_fast at h
  refine lv_aload_n X.1 X.2.1 dX5_fast_0 rfl (lv_at hl 0 rfl) ?_
  refine g_get X hP 0 5 3 (v := .ref hBO) rfl rfl inX5 (by decide) fl_X5_23 rfl dX5_fast_1 ?_
  refine lv_aload_n X.1 X.2.1 dX5_fast_4 rfl (lv_at hl 0 rfl) ?_
  refine g_get X hP 0 5 3 (v := .ref hBO) rfl rfl inX5 (by decide) fl_X5_23 rfl dX5_fast_5 ?_
  refine g_get X hP 1 0 5 (v := .long bo_boxes) rfl rfl inX0 (by decide) fl_X5_72 rfl dX5_fast_8 ?_
  refine g_cl (wr := [cPB hPB hTX pb_textLength hPI hBO hLO hMT hSE]) X [1] [0] (g_rV (As := [.long bo_boxes]) (rest := []) X (c_BO_standing l G hBO hBS bo_width bo_height bo_floor bo_goals bo_live bo_boxes bo_person bo_liveBesideInRow bo_liveBesideInColumn bo_boxes _ h _) lk_X5_182 rfl rfl ⟨Nat.le_of_ble_eq_true rfl, Nat.le_of_ble_eq_true rfl⟩ hP hD hS [1] rfl rfl 1 0 rfl rfl rfl hl.1 rfl (Nat.le_of_ble_eq_true rfl) dX5_fast_11 ⟨Nat.le_of_ble_eq_true rfl, Nat.le_of_ble_eq_true rfl⟩) hP hD hS rfl rfl rfl (by decide) (fun r_1 u H locs h hP hD hS => ?_)
  try dsimp only at h
  replace hP := hP.sub (ws' := [cPB hPB hTX pb_textLength hPI hBO hLO hMT hSE, cBO hBO bo_width bo_height bo_floor bo_goals bo_live bo_boxes bo_person hBS bo_liveBesideInRow bo_liveBesideInColumn]) [0, 1] rfl
  replace hD := hD.sub (ws' := [cPB hPB hTX pb_textLength hPI hBO hLO hMT hSE, cBO hBO bo_width bo_height bo_floor bo_goals bo_live bo_boxes bo_person hBS bo_liveBesideInRow bo_liveBesideInColumn]) [0, 1] rfl rfl
  refine g_ci (wr := [cPB hPB hTX pb_textLength hPI hBO hLO hMT hSE, cBO hBO bo_width bo_height bo_floor bo_goals bo_live bo_boxes bo_person hBS bo_liveBesideInRow bo_liveBesideInColumn]) X [] [0, 1] (g_rS (As := [.long r_1]) (rest := []) X (c_JL_bitCount l G r_1 _ h _) lk_X5_76 rfl rfl ⟨Nat.le_of_ble_eq_true rfl, Nat.le_of_ble_eq_true rfl⟩ hP hD hS [] rfl rfl rfl hl.1 rfl (Nat.le_of_ble_eq_true rfl) dX5_fast_14 ⟨Nat.le_of_ble_eq_true rfl, Nat.le_of_ble_eq_true rfl⟩) hP hD hS rfl rfl rfl (by decide) (fun r_2 u H locs h hP hD hS => ?_)
  try dsimp only at h
  replace hP := hP.sub (ws' := [cPB hPB hTX pb_textLength hPI hBO hLO hMT hSE, cBO hBO bo_width bo_height bo_floor bo_goals bo_live bo_boxes bo_person hBS bo_liveBesideInRow bo_liveBesideInColumn]) [0, 1] rfl
  replace hD := hD.sub (ws' := [cPB hPB hTX pb_textLength hPI hBO hLO hMT hSE, cBO hBO bo_width bo_height bo_floor bo_goals bo_live bo_boxes bo_person hBS bo_liveBesideInRow bo_liveBesideInColumn]) [0, 1] rfl rfl
  exact g_iret X () h hP hD hS dX5_fast_17
abbrev rm_PB_stuck : Room := { frames := 3, cells := 0, slots := 0, locals := 77 }
set_option maxHeartbeats 4000000 in
set_option maxRecDepth 100000 in
theorem c_PB_stuck (l : Launch) (G : gEnv) (hPB : Nat) (hTX : Nat) (hPI : Nat) (hBO : Nat) (hBS : Nat) (hLO : Nat) (hMT : Nat) (hSE : Nat) (pb_textLength : Int32) (bo_width : Int32) (bo_height : Int32) (bo_floor : Int64) (bo_goals : Int64) (bo_live : Int64) (bo_boxes : Int64) (bo_person : Int64) (bo_liveBesideInRow : Int64) (bo_liveBesideInColumn : Int64) (post : Int32 → Prop) (h : PB_stuck bo_floor bo_goals bo_boxes bo_liveBesideInRow bo_liveBesideInColumn post) (sz : Nat) : Met l yX5_stuck (Cond.code yX5_stuck cX5_stuck 1 (some .boolean) :: wAll) (rm_PB_stuck) (gPc G [.ref hPB] [cPB hPB hTX pb_textLength hPI hBO hLO hMT hSE, cBO hBO bo_width bo_height bo_floor bo_goals bo_live bo_boxes bo_person hBS bo_liveBesideInRow bo_liveBesideInColumn] sz) (gQi G (fun (r : Int32) (u : Unit) => post r ) (fun (u : Unit) => [cPB hPB hTX pb_textLength hPI hBO hLO hMT hSE, cBO hBO bo_width bo_height bo_floor bo_goals bo_live bo_boxes bo_person hBS bo_liveBesideInRow bo_liveBesideInColumn]) (va_A [cPB hPB hTX pb_textLength hPI hBO hLO hMT hSE, cBO hBO bo_width bo_height bo_floor bo_goals bo_live bo_boxes bo_person hBS bo_liveBesideInRow bo_liveBesideInColumn] sz)) 0 0 (va_A [cPB hPB hTX pb_textLength hPI hBO hLO hMT hSE, cBO hBO bo_width bo_height bo_floor bo_goals bo_live bo_boxes bo_person hBS bo_liveBesideInRow bo_liveBesideInColumn] sz) := by
  refine Met.ofW (cc := cX5_stuck) (maxL := 1) (ret := (some .boolean)) (by decide) rfl ?_
  intro p e s m args below meth c s₁ B hml hv
  obtain ⟨rfl, hsz, hP, hK, hD0⟩ := hv
  subst hsz
  have X := gX.ofB (ws := [cPB hPB hTX pb_textLength hPI hBO hLO hMT hSE, cBO hBO bo_width bo_height bo_floor bo_goals bo_live bo_boxes bo_person hBS bo_liveBesideInRow bo_liveBesideInColumn]) B hml hK hD0
  have hD := hD0.self (sz := s.heap.size)
  generalize hAe : va_A [cPB hPB hTX pb_textLength hPI hBO hLO hMT hSE, cBO hBO bo_width bo_height bo_floor bo_goals bo_live bo_boxes bo_person hBS bo_liveBesideInRow bo_liveBesideInColumn] s.heap.size = A at X hD ⊢
  have hS : va_S A s.heap s.heap [] := va_S.rf
  have hl := lv_entry ([.ref hPB]) (n := 1) (Nat.le_of_ble_eq_true rfl)
  rw [lg_entry_eq]
  generalize (lg_sl ([.ref hPB]) ++ List.replicate (1 - (lg_sl ([.ref hPB])).length) Slot.unset).toArray = ls at hl ⊢
  have hl : lv_has ls 1 [(0, .ref hPB)] := hl
  dsimp only [headSpec]
  unfold PB_stuck at h
  refine lv_aload_n X.1 X.2.1 dX5_stuck_0 rfl (lv_at hl 0 rfl) ?_
  refine g_get X hP 0 5 3 (v := .ref hBO) rfl rfl inX5 (by decide) fl_X5_23 rfl dX5_stuck_1 ?_
  refine lv_aload_n X.1 X.2.1 dX5_stuck_4 rfl (lv_at hl 0 rfl) ?_
  refine g_get X hP 0 5 3 (v := .ref hBO) rfl rfl inX5 (by decide) fl_X5_23 rfl dX5_stuck_5 ?_
  refine g_get X hP 1 0 5 (v := .long bo_boxes) rfl rfl inX0 (by decide) fl_X5_72 rfl dX5_stuck_8 ?_
  refine g_ci (wr := [cPB hPB hTX pb_textLength hPI hBO hLO hMT hSE]) X [1] [0] (g_rV (As := [.long bo_boxes]) (rest := []) X (c_BO_isStuck l G hBO hBS bo_width bo_height bo_floor bo_goals bo_live bo_boxes bo_person bo_liveBesideInRow bo_liveBesideInColumn bo_boxes _ h _) lk_X5_186 rfl rfl ⟨Nat.le_of_ble_eq_true rfl, Nat.le_of_ble_eq_true rfl⟩ hP hD hS [1] rfl rfl 1 0 rfl rfl rfl hl.1 rfl (Nat.le_of_ble_eq_true rfl) dX5_stuck_11 ⟨Nat.le_of_ble_eq_true rfl, Nat.le_of_ble_eq_true rfl⟩) hP hD hS rfl rfl rfl (by decide) (fun r_1 u H locs h hP hD hS => ?_)
  try dsimp only at h
  replace hP := hP.sub (ws' := [cPB hPB hTX pb_textLength hPI hBO hLO hMT hSE, cBO hBO bo_width bo_height bo_floor bo_goals bo_live bo_boxes bo_person hBS bo_liveBesideInRow bo_liveBesideInColumn]) [0, 1] rfl
  replace hD := hD.sub (ws' := [cPB hPB hTX pb_textLength hPI hBO hLO hMT hSE, cBO hBO bo_width bo_height bo_floor bo_goals bo_live bo_boxes bo_person hBS bo_liveBesideInRow bo_liveBesideInColumn]) [0, 1] rfl rfl
  obtain ⟨hv, h⟩ := h
  exact g_zret X hv () h hP hD hS dX5_stuck_14
abbrev rm_PB_bound : Room := { frames := 3, cells := 0, slots := 0, locals := 76 }
set_option maxHeartbeats 4000000 in
set_option maxRecDepth 100000 in
theorem s_PB_bound_44 {p : Program} {l : Launch} {e : Env} {s : State} {m : MethodId} {args : Array Value} {below : List Frame} {meth : Method} {c : Code} {G : gEnv} {A : Nat → Prop} {hPB : Nat} {hTX : Nat} {hPI : Nat} {hBO : Nat} {hBS : Nat} {hLO : Nat} {hMT : Nat} {hMC : Nat} {hGL : Nat} {hBL : Nat} {hGB : Nat} {hBB : Nat} {hSK : Nat} {hSN : Nat} {hSE : Nat} {pb_textLength : Int32} {bo_width : Int32} {bo_height : Int32} {bo_live : Int64} {bo_person : Int64} {bo_liveBesideInRow : Int64} {bo_liveBesideInColumn : Int64} {bo_floor : Int64} {bo_goals : Int64} {bo_boxes : Int64} {k6 : (Nat → Int32) → (Nat → Int32) → (Nat → Int32) → (Nat → Int32) → (Nat → Int32) → (Nat → Int32) → (Nat → Int32) → (Nat → Int32) → Int32 → Int32 → Int32 → Prop} {post : Int32 → (Nat → Int32) → (Nat → Int32) → (Nat → Int32) → (Nat → Int32) → (Nat → Int32) → (Nat → Int32) → (Nat → Int32) → (Nat → Int32) → Prop} (X : gX p m meth c cX5_bound 5 RX5 (some .int) s args G A) (hk6 : ∀ (aBS' : (Nat → Int32)) (aMC' : (Nat → Int32)) (aGL' : (Nat → Int32)) (aBL' : (Nat → Int32)) (aGB' : (Nat → Int32)) (aBB' : (Nat → Int32)) (aSK' : (Nat → Int32)) (aSN' : (Nat → Int32)) (v1' : Int32) (v2' : Int32) (v3' : Int32) (H : Heap) (locs : List Loc) (ls : Array Slot), k6 aBS' aMC' aGL' aBL' aGB' aBB' aSK' aSN' v1' v2' v3' → va_P G.1 gCl [cPB hPB hTX pb_textLength hPI hBO hLO hMT hSE, cBO hBO bo_width bo_height bo_floor bo_goals bo_live bo_boxes bo_person hBS bo_liveBesideInRow bo_liveBesideInColumn, cI G hBS 64 aBS', cMT hMT hMC hGL hBL hGB hBB hSK hSN, cI G hMC 169 aMC', cI G hGL 13 aGL', cI G hBL 13 aBL', cI G hGB 13 aGB', cI G hBB 13 aBB', cI G hSK 13 aSK', cZ G hSN 13 aSN'] H → va_D A [cPB hPB hTX pb_textLength hPI hBO hLO hMT hSE, cBO hBO bo_width bo_height bo_floor bo_goals bo_live bo_boxes bo_person hBS bo_liveBesideInRow bo_liveBesideInColumn, cI G hBS 64 aBS', cMT hMT hMC hGL hBL hGB hBB hSK hSN, cI G hMC 169 aMC', cI G hGL 13 aGL', cI G hBL 13 aBL', cI G hGB 13 aGB', cI G hBB 13 aBB', cI G hSK 13 aSK', cZ G hSN 13 aSN'] → va_S A s.heap H locs → lv_has ls 5 [(0, .ref hPB), (1, .int v1'), (2, .int v2'), (3, .int v3')] → W p l e rm_PB_bound s m args below meth c H locs 0 0 (MQ below (gQi G (fun (r : Int32) (u : (Nat → Int32) × (Nat → Int32) × (Nat → Int32) × (Nat → Int32) × (Nat → Int32) × (Nat → Int32) × (Nat → Int32) × (Nat → Int32)) => post r u.1 u.2.1 u.2.2.1 u.2.2.2.1 u.2.2.2.2.1 u.2.2.2.2.2.1 u.2.2.2.2.2.2.1 u.2.2.2.2.2.2.2) (fun (u : (Nat → Int32) × (Nat → Int32) × (Nat → Int32) × (Nat → Int32) × (Nat → Int32) × (Nat → Int32) × (Nat → Int32) × (Nat → Int32)) => [cPB hPB hTX pb_textLength hPI hBO hLO hMT hSE, cBO hBO bo_width bo_height bo_floor bo_goals bo_live bo_boxes bo_person hBS bo_liveBesideInRow bo_liveBesideInColumn, cI G hBS 64 u.1, cMT hMT hMC hGL hBL hGB hBB hSK hSN, cI G hMC 169 u.2.1, cI G hGL 13 u.2.2.1, cI G hBL 13 u.2.2.2.1, cI G hGB 13 u.2.2.2.2.1, cI G hBB 13 u.2.2.2.2.2.1, cI G hSK 13 u.2.2.2.2.2.2.1, cZ G hSN 13 u.2.2.2.2.2.2.2]) A) args s 0 0 A) (F0 m 6 ls [])) : ∀ (n : Nat) (aBS : (Nat → Int32)) (aMC : (Nat → Int32)) (aGL : (Nat → Int32)) (aBL : (Nat → Int32)) (aGB : (Nat → Int32)) (aBB : (Nat → Int32)) (aSK : (Nat → Int32)) (aSN : (Nat → Int32)) (v1 : Int32) (v2 : Int32) (v3 : Int32) (v4 : Int32) (H : Heap) (locs : List Loc) (ls : Array Slot), PB_bound_44 bo_floor bo_goals bo_boxes k6 post n aBS aMC aGL aBL aGB aBB aSK aSN v1 v2 v3 v4 → va_P G.1 gCl [cPB hPB hTX pb_textLength hPI hBO hLO hMT hSE, cBO hBO bo_width bo_height bo_floor bo_goals bo_live bo_boxes bo_person hBS bo_liveBesideInRow bo_liveBesideInColumn, cI G hBS 64 aBS, cMT hMT hMC hGL hBL hGB hBB hSK hSN, cI G hMC 169 aMC, cI G hGL 13 aGL, cI G hBL 13 aBL, cI G hGB 13 aGB, cI G hBB 13 aBB, cI G hSK 13 aSK, cZ G hSN 13 aSN] H → va_D A [cPB hPB hTX pb_textLength hPI hBO hLO hMT hSE, cBO hBO bo_width bo_height bo_floor bo_goals bo_live bo_boxes bo_person hBS bo_liveBesideInRow bo_liveBesideInColumn, cI G hBS 64 aBS, cMT hMT hMC hGL hBL hGB hBB hSK hSN, cI G hMC 169 aMC, cI G hGL 13 aGL, cI G hBL 13 aBL, cI G hGB 13 aGB, cI G hBB 13 aBB, cI G hSK 13 aSK, cZ G hSN 13 aSN] → va_S A s.heap H locs → lv_has ls 5 [(0, .ref hPB), (1, .int v1), (2, .int v2), (3, .int v3), (4, .int v4)] → W p l e rm_PB_bound s m args below meth c H locs 0 0 (MQ below (gQi G (fun (r : Int32) (u : (Nat → Int32) × (Nat → Int32) × (Nat → Int32) × (Nat → Int32) × (Nat → Int32) × (Nat → Int32) × (Nat → Int32) × (Nat → Int32)) => post r u.1 u.2.1 u.2.2.1 u.2.2.2.1 u.2.2.2.2.1 u.2.2.2.2.2.1 u.2.2.2.2.2.2.1 u.2.2.2.2.2.2.2) (fun (u : (Nat → Int32) × (Nat → Int32) × (Nat → Int32) × (Nat → Int32) × (Nat → Int32) × (Nat → Int32) × (Nat → Int32) × (Nat → Int32)) => [cPB hPB hTX pb_textLength hPI hBO hLO hMT hSE, cBO hBO bo_width bo_height bo_floor bo_goals bo_live bo_boxes bo_person hBS bo_liveBesideInRow bo_liveBesideInColumn, cI G hBS 64 u.1, cMT hMT hMC hGL hBL hGB hBB hSK hSN, cI G hMC 169 u.2.1, cI G hGL 13 u.2.2.1, cI G hBL 13 u.2.2.2.1, cI G hGB 13 u.2.2.2.2.1, cI G hBB 13 u.2.2.2.2.2.1, cI G hSK 13 u.2.2.2.2.2.2.1, cZ G hSN 13 u.2.2.2.2.2.2.2]) A) args s 0 0 A) (F0 m 44 ls []) := by
  intro n
  induction n with
  | zero => intro aBS aMC aGL aBL aGB aBB aSK aSN v1 v2 v3 v4 H locs ls h _ _ _ _; exact h.elim
  | succ n ih =>
    intro aBS aMC aGL aBL aGB aBB aSK aSN v1 v2 v3 v4 H locs ls h hP hD hS hl
    unfold PB_bound_44 at h
    refine lv_iload X.1 X.2.1 dX5_bound_44 (lv_at hl 4 rfl) ?_
    refine lv_bipush (v := (64 : Int32)) X.1 X.2.1 dX5_bound_46 (by decide) ?_
    refine lv_icmp_ge (tgt := 94) X.1 X.2.1 dX5_bound_48 (by decide) (fun hc => ?_) (fun hc => ?_)
    · replace h := Eq.mp (if_pos hc) h
      refine lv_iinc (v := (v1 + (1 : Int32))) (lv' := [(1, .int (v1 + (1 : Int32))), (0, .ref hPB), (2, .int v2), (3, .int v3), (4, .int v4)]) X.1 X.2.1 dX5_bound_94 hl (k := 1) rfl rfl (by decide) rfl (fun ls hl => ?_)
      refine lv_iinc (v := (v3 + (1 : Int32))) (lv' := [(3, .int (v3 + (1 : Int32))), (1, .int (v1 + (1 : Int32))), (0, .ref hPB), (2, .int v2), (4, .int v4)]) X.1 X.2.1 dX5_bound_97 hl (k := 3) rfl rfl (by decide) rfl (fun ls hl => ?_)
      refine lv_goto (tgt := 6) X.1 X.2.1 dX5_bound_100 (by decide) ?_
      exact hk6 aBS aMC aGL aBL aGB aBB aSK aSN (v1 + (1 : Int32)) v2 (v3 + (1 : Int32)) _ _ _ h hP hD hS (lv_sub hl [2, 1, 3, 0] rfl)
    · replace h := Eq.mp (if_neg hc) h
      refine lv_aload_n X.1 X.2.1 dX5_bound_51 rfl (lv_at hl 0 rfl) ?_
      refine g_get X hP 0 5 3 (v := .ref hBO) rfl rfl inX5 (by decide) fl_X5_23 rfl dX5_bound_52 ?_
      refine g_get X hP 1 0 3 (v := .long bo_goals) rfl rfl inX0 (by decide) fl_X5_135 rfl dX5_bound_55 ?_
      refine lv_iload X.1 X.2.1 dX5_bound_58 (lv_at hl 4 rfl) ?_
      refine g_ci (wr := [cPB hPB hTX pb_textLength hPI hBO hLO hMT hSE, cBO hBO bo_width bo_height bo_floor bo_goals bo_live bo_boxes bo_person hBS bo_liveBesideInRow bo_liveBesideInColumn, cI G hBS 64 aBS, cMT hMT hMC hGL hBL hGB hBB hSK hSN, cI G hMC 169 aMC, cI G hGL 13 aGL, cI G hBL 13 aBL, cI G hGB 13 aGB, cI G hBB 13 aBB, cI G hSK 13 aSK, cZ G hSN 13 aSN]) X [] [0, 1, 2, 3, 4, 5, 6, 7, 8, 9, 10] (g_rS (As := [.long bo_goals, .int v4]) (rest := []) X (c_PB_has l G bo_goals v4 _ h _) lk_X5_189 rfl rfl ⟨Nat.le_of_ble_eq_true rfl, Nat.le_of_ble_eq_true rfl⟩ hP hD hS [] rfl rfl rfl hl.1 rfl (Nat.le_of_ble_eq_true rfl) dX5_bound_60 ⟨Nat.le_of_ble_eq_true rfl, Nat.le_of_ble_eq_true rfl⟩) hP hD hS rfl rfl rfl (by decide) (fun r_1 u H locs h hP hD hS => ?_)
      try dsimp only at h
      replace hP := hP.sub (ws' := [cPB hPB hTX pb_textLength hPI hBO hLO hMT hSE, cBO hBO bo_width bo_height bo_floor bo_goals bo_live bo_boxes bo_person hBS bo_liveBesideInRow bo_liveBesideInColumn, cI G hBS 64 aBS, cMT hMT hMC hGL hBL hGB hBB hSK hSN, cI G hMC 169 aMC, cI G hGL 13 aGL, cI G hBL 13 aBL, cI G hGB 13 aGB, cI G hBB 13 aBB, cI G hSK 13 aSK, cZ G hSN 13 aSN]) [0, 1, 2, 3, 4, 5, 6, 7, 8, 9, 10] rfl
      replace hD := hD.sub (ws' := [cPB hPB hTX pb_textLength hPI hBO hLO hMT hSE, cBO hBO bo_width bo_height bo_floor bo_goals bo_live bo_boxes bo_person hBS bo_liveBesideInRow bo_liveBesideInColumn, cI G hBS 64 aBS, cMT hMT hMC hGL hBL hGB hBB hSK hSN, cI G hMC 169 aMC, cI G hGL 13 aGL, cI G hBL 13 aBL, cI G hGB 13 aGB, cI G hBB 13 aBB, cI G hSK 13 aSK, cZ G hSN 13 aSN]) [0, 1, 2, 3, 4, 5, 6, 7, 8, 9, 10] rfl rfl
      refine lv_if_eq (tgt := 88) X.1 X.2.1 dX5_bound_63 (by decide) (fun hc => ?_) (fun hc => ?_)
      · replace h := Eq.mp (if_pos hc) h
        refine lv_iinc (v := (v4 + (1 : Int32))) (lv' := [(4, .int (v4 + (1 : Int32))), (0, .ref hPB), (1, .int v1), (2, .int v2), (3, .int v3)]) X.1 X.2.1 dX5_bound_88 hl (k := 4) rfl rfl (by decide) rfl (fun ls hl => ?_)
        refine lv_goto (tgt := 44) X.1 X.2.1 dX5_bound_91 (by decide) ?_
        exact ih aBS aMC aGL aBL aGB aBB aSK aSN v1 v2 v3 (v4 + (1 : Int32)) _ _ _ h hP hD hS (lv_sub hl [1, 2, 3, 4, 0] rfl)
      · replace h := Eq.mp (if_neg hc) h
        refine lv_aload_n X.1 X.2.1 dX5_bound_66 rfl (lv_at hl 0 rfl) ?_
        refine g_get X hP 0 5 5 (v := .ref hMT) rfl rfl inX5 (by decide) fl_X5_37 rfl dX5_bound_67 ?_
        refine lv_iload_n X.1 X.2.1 dX5_bound_70 rfl (lv_at hl 2 rfl) ?_
        refine lv_iload_n X.1 X.2.1 dX5_bound_71 rfl (lv_at hl 1 rfl) ?_
        refine lv_aload_n X.1 X.2.1 dX5_bound_72 rfl (lv_at hl 0 rfl) ?_
        refine g_get X hP 0 5 3 (v := .ref hBO) rfl rfl inX5 (by decide) fl_X5_23 rfl dX5_bound_73 ?_
        refine g_get X hP 1 0 7 (v := .ref hBS) rfl rfl inX0 (by decide) fl_X5_197 rfl dX5_bound_76 ?_
        refine lv_iload X.1 X.2.1 dX5_bound_79 (lv_at hl 4 rfl) ?_
        obtain ⟨hin, h⟩ := h
        refine va_iald (D := G.1) X.1 X.2.1 X.k.1 hP 2 0 rfl rfl hin dX5_bound_81 ?_
        refine g_cv (wr := [cPB hPB hTX pb_textLength hPI hBO hLO hMT hSE, cBO hBO bo_width bo_height bo_floor bo_goals bo_live bo_boxes bo_person hBS bo_liveBesideInRow bo_liveBesideInColumn, cI G hBS 64 aBS, cI G hGL 13 aGL, cI G hBL 13 aBL, cI G hGB 13 aGB, cI G hBB 13 aBB, cI G hSK 13 aSK, cZ G hSN 13 aSN]) X [3, 4] [0, 1, 2, 5, 6, 7, 8, 9, 10] (g_rV (As := [.int v2, .int v1, .int (aBS v4.toNatClampNeg)]) (rest := []) X (c_MT_setCost l G hMT hMC hGL hBL hGB hBB hSK hSN aMC v2 v1 (aBS v4.toNatClampNeg) _ h _) lk_X5_200 rfl rfl ⟨Nat.le_of_ble_eq_true rfl, Nat.le_of_ble_eq_true rfl⟩ hP hD hS [3, 4] rfl rfl 3 2 rfl rfl rfl hl.1 rfl (Nat.le_of_ble_eq_true rfl) dX5_bound_82 ⟨Nat.le_of_ble_eq_true rfl, Nat.le_of_ble_eq_true rfl⟩) hP hD hS rfl rfl rfl (by decide) (fun u H locs h hP hD hS => ?_)
        obtain ⟨aMC_2, rfl⟩ : ∃ z, z = u := ⟨_, rfl⟩
        try dsimp only at h
        replace hP := hP.sub (ws' := [cPB hPB hTX pb_textLength hPI hBO hLO hMT hSE, cBO hBO bo_width bo_height bo_floor bo_goals bo_live bo_boxes bo_person hBS bo_liveBesideInRow bo_liveBesideInColumn, cI G hBS 64 aBS, cMT hMT hMC hGL hBL hGB hBB hSK hSN, cI G hMC 169 aMC_2, cI G hGL 13 aGL, cI G hBL 13 aBL, cI G hGB 13 aGB, cI G hBB 13 aBB, cI G hSK 13 aSK, cZ G hSN 13 aSN]) [0, 1, 2, 9, 10, 3, 4, 5, 6, 7, 8] rfl
        replace hD := hD.sub (ws' := [cPB hPB hTX pb_textLength hPI hBO hLO hMT hSE, cBO hBO bo_width bo_height bo_floor bo_goals bo_live bo_boxes bo_person hBS bo_liveBesideInRow bo_liveBesideInColumn, cI G hBS 64 aBS, cMT hMT hMC hGL hBL hGB hBB hSK hSN, cI G hMC 169 aMC_2, cI G hGL 13 aGL, cI G hBL 13 aBL, cI G hGB 13 aGB, cI G hBB 13 aBB, cI G hSK 13 aSK, cZ G hSN 13 aSN]) [0, 1, 2, 9, 10, 3, 4, 5, 6, 7, 8] rfl rfl
        refine lv_iinc (v := (v2 + (1 : Int32))) (lv' := [(2, .int (v2 + (1 : Int32))), (0, .ref hPB), (1, .int v1), (3, .int v3), (4, .int v4)]) X.1 X.2.1 dX5_bound_85 hl (k := 2) rfl rfl (by decide) rfl (fun ls hl => ?_)
        refine lv_iinc (v := (v4 + (1 : Int32))) (lv' := [(4, .int (v4 + (1 : Int32))), (2, .int (v2 + (1 : Int32))), (0, .ref hPB), (1, .int v1), (3, .int v3)]) X.1 X.2.1 dX5_bound_88 hl (k := 4) rfl rfl (by decide) rfl (fun ls hl => ?_)
        refine lv_goto (tgt := 44) X.1 X.2.1 dX5_bound_91 (by decide) ?_
        exact ih aBS aMC_2 aGL aBL aGB aBB aSK aSN v1 (v2 + (1 : Int32)) v3 (v4 + (1 : Int32)) _ _ _ h hP hD hS (lv_sub hl [2, 3, 1, 4, 0] rfl)
set_option maxHeartbeats 4000000 in
set_option maxRecDepth 100000 in
theorem s_PB_bound_6 {p : Program} {l : Launch} {e : Env} {s : State} {m : MethodId} {args : Array Value} {below : List Frame} {meth : Method} {c : Code} {G : gEnv} {A : Nat → Prop} {hPB : Nat} {hTX : Nat} {hPI : Nat} {hBO : Nat} {hBS : Nat} {hLO : Nat} {hMT : Nat} {hMC : Nat} {hGL : Nat} {hBL : Nat} {hGB : Nat} {hBB : Nat} {hSK : Nat} {hSN : Nat} {hSE : Nat} {pb_textLength : Int32} {bo_width : Int32} {bo_height : Int32} {bo_live : Int64} {bo_person : Int64} {bo_liveBesideInRow : Int64} {bo_liveBesideInColumn : Int64} {bo_floor : Int64} {bo_goals : Int64} {bo_boxes : Int64} {post : Int32 → (Nat → Int32) → (Nat → Int32) → (Nat → Int32) → (Nat → Int32) → (Nat → Int32) → (Nat → Int32) → (Nat → Int32) → (Nat → Int32) → Prop} (X : gX p m meth c cX5_bound 5 RX5 (some .int) s args G A)  : ∀ (n : Nat) (aBS : (Nat → Int32)) (aMC : (Nat → Int32)) (aGL : (Nat → Int32)) (aBL : (Nat → Int32)) (aGB : (Nat → Int32)) (aBB : (Nat → Int32)) (aSK : (Nat → Int32)) (aSN : (Nat → Int32)) (v1 : Int32) (v2 : Int32) (v3 : Int32) (H : Heap) (locs : List Loc) (ls : Array Slot), PB_bound_6 bo_floor bo_goals bo_boxes post n aBS aMC aGL aBL aGB aBB aSK aSN v1 v2 v3 → va_P G.1 gCl [cPB hPB hTX pb_textLength hPI hBO hLO hMT hSE, cBO hBO bo_width bo_height bo_floor bo_goals bo_live bo_boxes bo_person hBS bo_liveBesideInRow bo_liveBesideInColumn, cI G hBS 64 aBS, cMT hMT hMC hGL hBL hGB hBB hSK hSN, cI G hMC 169 aMC, cI G hGL 13 aGL, cI G hBL 13 aBL, cI G hGB 13 aGB, cI G hBB 13 aBB, cI G hSK 13 aSK, cZ G hSN 13 aSN] H → va_D A [cPB hPB hTX pb_textLength hPI hBO hLO hMT hSE, cBO hBO bo_width bo_height bo_floor bo_goals bo_live bo_boxes bo_person hBS bo_liveBesideInRow bo_liveBesideInColumn, cI G hBS 64 aBS, cMT hMT hMC hGL hBL hGB hBB hSK hSN, cI G hMC 169 aMC, cI G hGL 13 aGL, cI G hBL 13 aBL, cI G hGB 13 aGB, cI G hBB 13 aBB, cI G hSK 13 aSK, cZ G hSN 13 aSN] → va_S A s.heap H locs → lv_has ls 5 [(0, .ref hPB), (1, .int v1), (2, .int v2), (3, .int v3)] → W p l e rm_PB_bound s m args below meth c H locs 0 0 (MQ below (gQi G (fun (r : Int32) (u : (Nat → Int32) × (Nat → Int32) × (Nat → Int32) × (Nat → Int32) × (Nat → Int32) × (Nat → Int32) × (Nat → Int32) × (Nat → Int32)) => post r u.1 u.2.1 u.2.2.1 u.2.2.2.1 u.2.2.2.2.1 u.2.2.2.2.2.1 u.2.2.2.2.2.2.1 u.2.2.2.2.2.2.2) (fun (u : (Nat → Int32) × (Nat → Int32) × (Nat → Int32) × (Nat → Int32) × (Nat → Int32) × (Nat → Int32) × (Nat → Int32) × (Nat → Int32)) => [cPB hPB hTX pb_textLength hPI hBO hLO hMT hSE, cBO hBO bo_width bo_height bo_floor bo_goals bo_live bo_boxes bo_person hBS bo_liveBesideInRow bo_liveBesideInColumn, cI G hBS 64 u.1, cMT hMT hMC hGL hBL hGB hBB hSK hSN, cI G hMC 169 u.2.1, cI G hGL 13 u.2.2.1, cI G hBL 13 u.2.2.2.1, cI G hGB 13 u.2.2.2.2.1, cI G hBB 13 u.2.2.2.2.2.1, cI G hSK 13 u.2.2.2.2.2.2.1, cZ G hSN 13 u.2.2.2.2.2.2.2]) A) args s 0 0 A) (F0 m 6 ls []) := by
  intro n
  induction n with
  | zero => intro aBS aMC aGL aBL aGB aBB aSK aSN v1 v2 v3 H locs ls h _ _ _ _; exact h.elim
  | succ n ih =>
    intro aBS aMC aGL aBL aGB aBB aSK aSN v1 v2 v3 H locs ls h hP hD hS hl
    unfold PB_bound_6 at h
    refine lv_iload_n X.1 X.2.1 dX5_bound_6 rfl (lv_at hl 3 rfl) ?_
    refine lv_bipush (v := (64 : Int32)) X.1 X.2.1 dX5_bound_7 (by decide) ?_
    refine lv_icmp_ge (tgt := 103) X.1 X.2.1 dX5_bound_9 (by decide) (fun hc => ?_) (fun hc => ?_)
    · replace h := Eq.mp (if_pos hc) h
      refine lv_aload_n X.1 X.2.1 dX5_bound_103 rfl (lv_at hl 0 rfl) ?_
      refine g_get X hP 0 5 5 (v := .ref hMT) rfl rfl inX5 (by decide) fl_X5_37 rfl dX5_bound_104 ?_
      refine lv_iload_n X.1 X.2.1 dX5_bound_107 rfl (lv_at hl 2 rfl) ?_
      refine lv_iload_n X.1 X.2.1 dX5_bound_108 rfl (lv_at hl 1 rfl) ?_
      refine g_ci (wr := [cPB hPB hTX pb_textLength hPI hBO hLO hMT hSE, cBO hBO bo_width bo_height bo_floor bo_goals bo_live bo_boxes bo_person hBS bo_liveBesideInRow bo_liveBesideInColumn, cI G hBS 64 aBS]) X [3, 4, 5, 6, 7, 8, 9, 10] [0, 1, 2] (g_rV (As := [.int v2, .int v1]) (rest := []) X (c_MT_leastSum l G hMT hMC hGL hBL hGB hBB hSK hSN aMC aGL aBL aGB aBB aSK aSN v2 v1 _ h _) lk_X5_204 rfl rfl ⟨Nat.le_of_ble_eq_true rfl, Nat.le_of_ble_eq_true rfl⟩ hP hD hS [3, 4, 5, 6, 7, 8, 9, 10] rfl rfl 3 2 rfl rfl rfl hl.1 rfl (Nat.le_of_ble_eq_true rfl) dX5_bound_109 ⟨Nat.le_of_ble_eq_true rfl, Nat.le_of_ble_eq_true rfl⟩) hP hD hS rfl rfl rfl (by decide) (fun r_1 u H locs h hP hD hS => ?_)
      obtain ⟨aGL_2, aBL_3, aGB_4, aBB_5, aSK_6, aSN_7⟩ := u
      try dsimp only at h
      replace hP := hP.sub (ws' := [cPB hPB hTX pb_textLength hPI hBO hLO hMT hSE, cBO hBO bo_width bo_height bo_floor bo_goals bo_live bo_boxes bo_person hBS bo_liveBesideInRow bo_liveBesideInColumn, cI G hBS 64 aBS, cMT hMT hMC hGL hBL hGB hBB hSK hSN, cI G hMC 169 aMC, cI G hGL 13 aGL_2, cI G hBL 13 aBL_3, cI G hGB 13 aGB_4, cI G hBB 13 aBB_5, cI G hSK 13 aSK_6, cZ G hSN 13 aSN_7]) [0, 1, 2, 3, 4, 5, 6, 7, 8, 9, 10] rfl
      replace hD := hD.sub (ws' := [cPB hPB hTX pb_textLength hPI hBO hLO hMT hSE, cBO hBO bo_width bo_height bo_floor bo_goals bo_live bo_boxes bo_person hBS bo_liveBesideInRow bo_liveBesideInColumn, cI G hBS 64 aBS, cMT hMT hMC hGL hBL hGB hBB hSK hSN, cI G hMC 169 aMC, cI G hGL 13 aGL_2, cI G hBL 13 aBL_3, cI G hGB 13 aGB_4, cI G hBB 13 aBB_5, cI G hSK 13 aSK_6, cZ G hSN 13 aSN_7]) [0, 1, 2, 3, 4, 5, 6, 7, 8, 9, 10] rfl rfl
      exact g_iret X (aBS, aMC, aGL_2, aBL_3, aGB_4, aBB_5, aSK_6, aSN_7) h hP hD hS dX5_bound_112
    · replace h := Eq.mp (if_neg hc) h
      refine lv_aload_n X.1 X.2.1 dX5_bound_12 rfl (lv_at hl 0 rfl) ?_
      refine g_get X hP 0 5 3 (v := .ref hBO) rfl rfl inX5 (by decide) fl_X5_23 rfl dX5_bound_13 ?_
      refine g_get X hP 1 0 5 (v := .long bo_boxes) rfl rfl inX0 (by decide) fl_X5_72 rfl dX5_bound_16 ?_
      refine lv_iload_n X.1 X.2.1 dX5_bound_19 rfl (lv_at hl 3 rfl) ?_
      refine g_ci (wr := [cPB hPB hTX pb_textLength hPI hBO hLO hMT hSE, cBO hBO bo_width bo_height bo_floor bo_goals bo_live bo_boxes bo_person hBS bo_liveBesideInRow bo_liveBesideInColumn, cI G hBS 64 aBS, cMT hMT hMC hGL hBL hGB hBB hSK hSN, cI G hMC 169 aMC, cI G hGL 13 aGL, cI G hBL 13 aBL, cI G hGB 13 aGB, cI G hBB 13 aBB, cI G hSK 13 aSK, cZ G hSN 13 aSN]) X [] [0, 1, 2, 3, 4, 5, 6, 7, 8, 9, 10] (g_rS (As := [.long bo_boxes, .int v3]) (rest := []) X (c_PB_has l G bo_boxes v3 _ h _) lk_X5_189 rfl rfl ⟨Nat.le_of_ble_eq_true rfl, Nat.le_of_ble_eq_true rfl⟩ hP hD hS [] rfl rfl rfl hl.1 rfl (Nat.le_of_ble_eq_true rfl) dX5_bound_20 ⟨Nat.le_of_ble_eq_true rfl, Nat.le_of_ble_eq_true rfl⟩) hP hD hS rfl rfl rfl (by decide) (fun r_8 u H locs h hP hD hS => ?_)
      try dsimp only at h
      replace hP := hP.sub (ws' := [cPB hPB hTX pb_textLength hPI hBO hLO hMT hSE, cBO hBO bo_width bo_height bo_floor bo_goals bo_live bo_boxes bo_person hBS bo_liveBesideInRow bo_liveBesideInColumn, cI G hBS 64 aBS, cMT hMT hMC hGL hBL hGB hBB hSK hSN, cI G hMC 169 aMC, cI G hGL 13 aGL, cI G hBL 13 aBL, cI G hGB 13 aGB, cI G hBB 13 aBB, cI G hSK 13 aSK, cZ G hSN 13 aSN]) [0, 1, 2, 3, 4, 5, 6, 7, 8, 9, 10] rfl
      replace hD := hD.sub (ws' := [cPB hPB hTX pb_textLength hPI hBO hLO hMT hSE, cBO hBO bo_width bo_height bo_floor bo_goals bo_live bo_boxes bo_person hBS bo_liveBesideInRow bo_liveBesideInColumn, cI G hBS 64 aBS, cMT hMT hMC hGL hBL hGB hBB hSK hSN, cI G hMC 169 aMC, cI G hGL 13 aGL, cI G hBL 13 aBL, cI G hGB 13 aGB, cI G hBB 13 aBB, cI G hSK 13 aSK, cZ G hSN 13 aSN]) [0, 1, 2, 3, 4, 5, 6, 7, 8, 9, 10] rfl rfl
      refine lv_if_ne (tgt := 29) X.1 X.2.1 dX5_bound_23 (by decide) (fun hc => ?_) (fun hc => ?_)
      · replace h := Eq.mp (if_neg hc) h
        refine lv_aload_n X.1 X.2.1 dX5_bound_29 rfl (lv_at hl 0 rfl) ?_
        refine g_get X hP 0 5 3 (v := .ref hBO) rfl rfl inX5 (by decide) fl_X5_23 rfl dX5_bound_30 ?_
        refine lv_lconst (v := (1 : Int64)) X.1 X.2.1 dX5_bound_33 (by decide) ?_
        refine lv_iload_n X.1 X.2.1 dX5_bound_34 rfl (lv_at hl 3 rfl) ?_
        refine lv_lshl X.1 X.2.1 dX5_bound_35 rfl ?_
        refine g_cv (wr := [cPB hPB hTX pb_textLength hPI hBO hLO hMT hSE, cMT hMT hMC hGL hBL hGB hBB hSK hSN, cI G hMC 169 aMC, cI G hGL 13 aGL, cI G hBL 13 aBL, cI G hGB 13 aGB, cI G hBB 13 aBB, cI G hSK 13 aSK, cZ G hSN 13 aSN]) X [1, 2] [0, 3, 4, 5, 6, 7, 8, 9, 10] (g_rV (As := [.long ((1 : Int64) <<< (v3.toInt64 &&& 63))]) (rest := []) X (c_BO_fillBoxSteps l G hBO hBS bo_width bo_height bo_floor bo_goals bo_live bo_boxes bo_person bo_liveBesideInRow bo_liveBesideInColumn aBS ((1 : Int64) <<< (v3.toInt64 &&& 63)) _ h _) lk_X5_193 rfl rfl ⟨Nat.le_of_ble_eq_true rfl, Nat.le_of_ble_eq_true rfl⟩ hP hD hS [1, 2] rfl rfl 1 0 rfl rfl rfl hl.1 rfl (Nat.le_of_ble_eq_true rfl) dX5_bound_36 ⟨Nat.le_of_ble_eq_true rfl, Nat.le_of_ble_eq_true rfl⟩) hP hD hS rfl rfl rfl (by decide) (fun u H locs h hP hD hS => ?_)
        obtain ⟨aBS_9, rfl⟩ : ∃ z, z = u := ⟨_, rfl⟩
        try dsimp only at h
        replace hP := hP.sub (ws' := [cPB hPB hTX pb_textLength hPI hBO hLO hMT hSE, cBO hBO bo_width bo_height bo_floor bo_goals bo_live bo_boxes bo_person hBS bo_liveBesideInRow bo_liveBesideInColumn, cI G hBS 64 aBS_9, cMT hMT hMC hGL hBL hGB hBB hSK hSN, cI G hMC 169 aMC, cI G hGL 13 aGL, cI G hBL 13 aBL, cI G hGB 13 aGB, cI G hBB 13 aBB, cI G hSK 13 aSK, cZ G hSN 13 aSN]) [0, 9, 10, 1, 2, 3, 4, 5, 6, 7, 8] rfl
        replace hD := hD.sub (ws' := [cPB hPB hTX pb_textLength hPI hBO hLO hMT hSE, cBO hBO bo_width bo_height bo_floor bo_goals bo_live bo_boxes bo_person hBS bo_liveBesideInRow bo_liveBesideInColumn, cI G hBS 64 aBS_9, cMT hMT hMC hGL hBL hGB hBB hSK hSN, cI G hMC 169 aMC, cI G hGL 13 aGL, cI G hBL 13 aBL, cI G hGB 13 aGB, cI G hBB 13 aBB, cI G hSK 13 aSK, cZ G hSN 13 aSN]) [0, 9, 10, 1, 2, 3, 4, 5, 6, 7, 8] rfl rfl
        refine lv_iconst (v := (0 : Int32)) X.1 X.2.1 dX5_bound_39 (by decide) ?_
        refine lv_istore_n (lv' := [(2, .int (0 : Int32)), (0, .ref hPB), (1, .int v1), (3, .int v3)]) X.1 X.2.1 dX5_bound_40 rfl hl (by decide) rfl (fun ls hl => ?_)
        refine lv_iconst (v := (0 : Int32)) X.1 X.2.1 dX5_bound_41 (by decide) ?_
        refine lv_istore (lv' := [(4, .int (0 : Int32)), (2, .int (0 : Int32)), (0, .ref hPB), (1, .int v1), (3, .int v3)]) X.1 X.2.1 dX5_bound_42 hl (by decide) rfl (fun ls hl => ?_)
        obtain ⟨n', h⟩ := h
        exact s_PB_bound_44 X (fun aBS' aMC' aGL' aBL' aGB' aBB' aSK' aSN' v1' v2' v3' H' locs' ls' h' hP' hD' hS' hl' => ih aBS' aMC' aGL' aBL' aGB' aBB' aSK' aSN' v1' v2' v3' H' locs' ls' h' hP' hD' hS' hl') n' aBS_9 aMC aGL aBL aGB aBB aSK aSN v1 (0 : Int32) v3 (0 : Int32) _ _ _ h hP hD hS (lv_sub hl [2, 3, 1, 4, 0] rfl)
      · replace h := Eq.mp (if_pos hc) h
        refine lv_goto (tgt := 97) X.1 X.2.1 dX5_bound_26 (by decide) ?_
        refine lv_iinc (v := (v3 + (1 : Int32))) (lv' := [(3, .int (v3 + (1 : Int32))), (0, .ref hPB), (1, .int v1), (2, .int v2)]) X.1 X.2.1 dX5_bound_97 hl (k := 3) rfl rfl (by decide) rfl (fun ls hl => ?_)
        refine lv_goto (tgt := 6) X.1 X.2.1 dX5_bound_100 (by decide) ?_
        exact ih aBS aMC aGL aBL aGB aBB aSK aSN v1 v2 (v3 + (1 : Int32)) _ _ _ h hP hD hS (lv_sub hl [1, 2, 3, 0] rfl)
set_option maxHeartbeats 4000000 in
set_option maxRecDepth 100000 in
theorem c_PB_bound (l : Launch) (G : gEnv) (hPB : Nat) (hTX : Nat) (hPI : Nat) (hBO : Nat) (hBS : Nat) (hLO : Nat) (hMT : Nat) (hMC : Nat) (hGL : Nat) (hBL : Nat) (hGB : Nat) (hBB : Nat) (hSK : Nat) (hSN : Nat) (hSE : Nat) (pb_textLength : Int32) (bo_width : Int32) (bo_height : Int32) (bo_floor : Int64) (bo_goals : Int64) (bo_live : Int64) (bo_boxes : Int64) (bo_person : Int64) (bo_liveBesideInRow : Int64) (bo_liveBesideInColumn : Int64) (aBS : Nat → Int32) (aMC : Nat → Int32) (aGL : Nat → Int32) (aBL : Nat → Int32) (aGB : Nat → Int32) (aBB : Nat → Int32) (aSK : Nat → Int32) (aSN : Nat → Int32) (post : Int32 → (Nat → Int32) → (Nat → Int32) → (Nat → Int32) → (Nat → Int32) → (Nat → Int32) → (Nat → Int32) → (Nat → Int32) → (Nat → Int32) → Prop) (h : PB_bound bo_floor bo_goals bo_boxes aBS aMC aGL aBL aGB aBB aSK aSN post) (sz : Nat) : Met l yX5_bound (Cond.code yX5_bound cX5_bound 5 (some .int) :: wAll) (rm_PB_bound) (gPc G [.ref hPB] [cPB hPB hTX pb_textLength hPI hBO hLO hMT hSE, cBO hBO bo_width bo_height bo_floor bo_goals bo_live bo_boxes bo_person hBS bo_liveBesideInRow bo_liveBesideInColumn, cI G hBS 64 aBS, cMT hMT hMC hGL hBL hGB hBB hSK hSN, cI G hMC 169 aMC, cI G hGL 13 aGL, cI G hBL 13 aBL, cI G hGB 13 aGB, cI G hBB 13 aBB, cI G hSK 13 aSK, cZ G hSN 13 aSN] sz) (gQi G (fun (r : Int32) (u : (Nat → Int32) × (Nat → Int32) × (Nat → Int32) × (Nat → Int32) × (Nat → Int32) × (Nat → Int32) × (Nat → Int32) × (Nat → Int32)) => post r u.1 u.2.1 u.2.2.1 u.2.2.2.1 u.2.2.2.2.1 u.2.2.2.2.2.1 u.2.2.2.2.2.2.1 u.2.2.2.2.2.2.2) (fun (u : (Nat → Int32) × (Nat → Int32) × (Nat → Int32) × (Nat → Int32) × (Nat → Int32) × (Nat → Int32) × (Nat → Int32) × (Nat → Int32)) => [cPB hPB hTX pb_textLength hPI hBO hLO hMT hSE, cBO hBO bo_width bo_height bo_floor bo_goals bo_live bo_boxes bo_person hBS bo_liveBesideInRow bo_liveBesideInColumn, cI G hBS 64 u.1, cMT hMT hMC hGL hBL hGB hBB hSK hSN, cI G hMC 169 u.2.1, cI G hGL 13 u.2.2.1, cI G hBL 13 u.2.2.2.1, cI G hGB 13 u.2.2.2.2.1, cI G hBB 13 u.2.2.2.2.2.1, cI G hSK 13 u.2.2.2.2.2.2.1, cZ G hSN 13 u.2.2.2.2.2.2.2]) (va_A [cPB hPB hTX pb_textLength hPI hBO hLO hMT hSE, cBO hBO bo_width bo_height bo_floor bo_goals bo_live bo_boxes bo_person hBS bo_liveBesideInRow bo_liveBesideInColumn, cI G hBS 64 aBS, cMT hMT hMC hGL hBL hGB hBB hSK hSN, cI G hMC 169 aMC, cI G hGL 13 aGL, cI G hBL 13 aBL, cI G hGB 13 aGB, cI G hBB 13 aBB, cI G hSK 13 aSK, cZ G hSN 13 aSN] sz)) 0 0 (va_A [cPB hPB hTX pb_textLength hPI hBO hLO hMT hSE, cBO hBO bo_width bo_height bo_floor bo_goals bo_live bo_boxes bo_person hBS bo_liveBesideInRow bo_liveBesideInColumn, cI G hBS 64 aBS, cMT hMT hMC hGL hBL hGB hBB hSK hSN, cI G hMC 169 aMC, cI G hGL 13 aGL, cI G hBL 13 aBL, cI G hGB 13 aGB, cI G hBB 13 aBB, cI G hSK 13 aSK, cZ G hSN 13 aSN] sz) := by
  refine Met.ofW (cc := cX5_bound) (maxL := 5) (ret := (some .int)) (by decide) rfl ?_
  intro p e s m args below meth c s₁ B hml hv
  obtain ⟨rfl, hsz, hP, hK, hD0⟩ := hv
  subst hsz
  have X := gX.ofB (ws := [cPB hPB hTX pb_textLength hPI hBO hLO hMT hSE, cBO hBO bo_width bo_height bo_floor bo_goals bo_live bo_boxes bo_person hBS bo_liveBesideInRow bo_liveBesideInColumn, cI G hBS 64 aBS, cMT hMT hMC hGL hBL hGB hBB hSK hSN, cI G hMC 169 aMC, cI G hGL 13 aGL, cI G hBL 13 aBL, cI G hGB 13 aGB, cI G hBB 13 aBB, cI G hSK 13 aSK, cZ G hSN 13 aSN]) B hml hK hD0
  have hD := hD0.self (sz := s.heap.size)
  generalize hAe : va_A [cPB hPB hTX pb_textLength hPI hBO hLO hMT hSE, cBO hBO bo_width bo_height bo_floor bo_goals bo_live bo_boxes bo_person hBS bo_liveBesideInRow bo_liveBesideInColumn, cI G hBS 64 aBS, cMT hMT hMC hGL hBL hGB hBB hSK hSN, cI G hMC 169 aMC, cI G hGL 13 aGL, cI G hBL 13 aBL, cI G hGB 13 aGB, cI G hBB 13 aBB, cI G hSK 13 aSK, cZ G hSN 13 aSN] s.heap.size = A at X hD ⊢
  have hS : va_S A s.heap s.heap [] := va_S.rf
  have hl := lv_entry ([.ref hPB]) (n := 5) (Nat.le_of_ble_eq_true rfl)
  rw [lg_entry_eq]
  generalize (lg_sl ([.ref hPB]) ++ List.replicate (5 - (lg_sl ([.ref hPB])).length) Slot.unset).toArray = ls at hl ⊢
  have hl : lv_has ls 5 [(0, .ref hPB)] := hl
  dsimp only [headSpec]
  unfold PB_bound at h
  refine lv_iconst (v := (0 : Int32)) X.1 X.2.1 dX5_bound_0 (by decide) ?_
  refine lv_istore_n (lv' := [(1, .int (0 : Int32)), (0, .ref hPB)]) X.1 X.2.1 dX5_bound_1 rfl hl (by decide) rfl (fun ls hl => ?_)
  refine lv_iconst (v := (0 : Int32)) X.1 X.2.1 dX5_bound_2 (by decide) ?_
  refine lv_istore_n (lv' := [(2, .int (0 : Int32)), (1, .int (0 : Int32)), (0, .ref hPB)]) X.1 X.2.1 dX5_bound_3 rfl hl (by decide) rfl (fun ls hl => ?_)
  refine lv_iconst (v := (0 : Int32)) X.1 X.2.1 dX5_bound_4 (by decide) ?_
  refine lv_istore_n (lv' := [(3, .int (0 : Int32)), (2, .int (0 : Int32)), (1, .int (0 : Int32)), (0, .ref hPB)]) X.1 X.2.1 dX5_bound_5 rfl hl (by decide) rfl (fun ls hl => ?_)
  obtain ⟨n', h⟩ := h
  exact s_PB_bound_6 X  n' aBS aMC aGL aBL aGB aBB aSK aSN (0 : Int32) (0 : Int32) (0 : Int32) _ _ _ h hP hD hS (lv_sub hl [3, 2, 1, 0] rfl)
abbrev rm_PB_search (bc bs : Nat) : Room := { frames := 7, cells := bc, slots := bs, locals := 196 }
set_option maxHeartbeats 4000000 in
set_option maxRecDepth 100000 in
theorem c_PB_search (l : Launch) (G : gEnv) (hPB : Nat) (hTX : Nat) (hPI : Nat) (hBO : Nat) (hBS : Nat) (hLO : Nat) (hMT : Nat) (hSE : Nat) (hSB : Nat) (hSL : Nat) (hSP : Nat) (hSU : Nat) (hSS : Nat) (pb_textLength : Int32) (bo_width : Int32) (bo_height : Int32) (bo_floor : Int64) (bo_goals : Int64) (bo_live : Int64) (bo_boxes : Int64) (bo_person : Int64) (bo_liveBesideInRow : Int64) (bo_liveBesideInColumn : Int64) (se_count : Int32) (se_length : Int32) (se_found : Int32) (se_overfull : Int32) (sb_n : Nat) (aSB : Nat → Int64) (sl_n : Nat) (aSL : Nat → Int32) (sp_n : Nat) (aSP : Nat → Int32) (su_n : Nat) (aSU : Nat → Int32) (ss_n : Nat) (aSS : Nat → Int32) (v1 : Int32) (bc bs : Nat) (post : Int32 → Int32 → Int32 → Int32 → Int32 → Nat → (Nat → Int64) → Nat → (Nat → Int32) → Nat → (Nat → Int32) → Nat → (Nat → Int32) → Nat → (Nat → Int32) → Prop) (h : PB_search bo_width bo_floor bo_goals bo_live bo_boxes bo_person bo_liveBesideInRow bo_liveBesideInColumn se_count se_length se_found se_overfull sb_n aSB sl_n aSL sp_n aSP su_n aSU ss_n aSS v1 bc bs post) (sz : Nat) : Met l yX5_search (Cond.code yX5_search cX5_search 2 (some .int) :: wAll) (rm_PB_search bc bs) (gPc G [.ref hPB, .int v1] [cPB hPB hTX pb_textLength hPI hBO hLO hMT hSE, cBO hBO bo_width bo_height bo_floor bo_goals bo_live bo_boxes bo_person hBS bo_liveBesideInRow bo_liveBesideInColumn, cSE hSE se_count se_length hSB hSL hSP hSU hSS se_found se_overfull, cJ G hSB sb_n aSB, cI G hSL sl_n aSL, cI G hSP sp_n aSP, cI G hSU su_n aSU, cI G hSS ss_n aSS] sz) (gQi G (fun (r : Int32) (u : Int32 × Int32 × Int32 × Int32 × Nat × (Nat → Int64) × Nat × (Nat → Int32) × Nat × (Nat → Int32) × Nat × (Nat → Int32) × Nat × (Nat → Int32) × Nat × Nat × Nat × Nat × Nat) => post r u.1 u.2.1 u.2.2.1 u.2.2.2.1 u.2.2.2.2.1 u.2.2.2.2.2.1 u.2.2.2.2.2.2.1 u.2.2.2.2.2.2.2.1 u.2.2.2.2.2.2.2.2.1 u.2.2.2.2.2.2.2.2.2.1 u.2.2.2.2.2.2.2.2.2.2.1 u.2.2.2.2.2.2.2.2.2.2.2.1 u.2.2.2.2.2.2.2.2.2.2.2.2.1 u.2.2.2.2.2.2.2.2.2.2.2.2.2.1) (fun (u : Int32 × Int32 × Int32 × Int32 × Nat × (Nat → Int64) × Nat × (Nat → Int32) × Nat × (Nat → Int32) × Nat × (Nat → Int32) × Nat × (Nat → Int32) × Nat × Nat × Nat × Nat × Nat) => [cPB hPB hTX pb_textLength hPI hBO hLO hMT hSE, cBO hBO bo_width bo_height bo_floor bo_goals bo_live bo_boxes bo_person hBS bo_liveBesideInRow bo_liveBesideInColumn, cSE hSE u.1 u.2.1 u.2.2.2.2.2.2.2.2.2.2.2.2.2.2.1 u.2.2.2.2.2.2.2.2.2.2.2.2.2.2.2.1 u.2.2.2.2.2.2.2.2.2.2.2.2.2.2.2.2.1 u.2.2.2.2.2.2.2.2.2.2.2.2.2.2.2.2.2.1 u.2.2.2.2.2.2.2.2.2.2.2.2.2.2.2.2.2.2 u.2.2.1 u.2.2.2.1, cJ G u.2.2.2.2.2.2.2.2.2.2.2.2.2.2.1 u.2.2.2.2.1 u.2.2.2.2.2.1, cI G u.2.2.2.2.2.2.2.2.2.2.2.2.2.2.2.1 u.2.2.2.2.2.2.1 u.2.2.2.2.2.2.2.1, cI G u.2.2.2.2.2.2.2.2.2.2.2.2.2.2.2.2.1 u.2.2.2.2.2.2.2.2.1 u.2.2.2.2.2.2.2.2.2.1, cI G u.2.2.2.2.2.2.2.2.2.2.2.2.2.2.2.2.2.1 u.2.2.2.2.2.2.2.2.2.2.1 u.2.2.2.2.2.2.2.2.2.2.2.1, cI G u.2.2.2.2.2.2.2.2.2.2.2.2.2.2.2.2.2.2 u.2.2.2.2.2.2.2.2.2.2.2.2.1 u.2.2.2.2.2.2.2.2.2.2.2.2.2.1]) (va_A [cPB hPB hTX pb_textLength hPI hBO hLO hMT hSE, cBO hBO bo_width bo_height bo_floor bo_goals bo_live bo_boxes bo_person hBS bo_liveBesideInRow bo_liveBesideInColumn, cSE hSE se_count se_length hSB hSL hSP hSU hSS se_found se_overfull, cJ G hSB sb_n aSB, cI G hSL sl_n aSL, cI G hSP sp_n aSP, cI G hSU su_n aSU, cI G hSS ss_n aSS] sz)) bc bs (va_A [cPB hPB hTX pb_textLength hPI hBO hLO hMT hSE, cBO hBO bo_width bo_height bo_floor bo_goals bo_live bo_boxes bo_person hBS bo_liveBesideInRow bo_liveBesideInColumn, cSE hSE se_count se_length hSB hSL hSP hSU hSS se_found se_overfull, cJ G hSB sb_n aSB, cI G hSL sl_n aSL, cI G hSP sp_n aSP, cI G hSU su_n aSU, cI G hSS ss_n aSS] sz) := by
  refine Met.ofW (cc := cX5_search) (maxL := 2) (ret := (some .int)) (by decide) rfl ?_
  intro p e s m args below meth c s₁ B hml hv
  obtain ⟨rfl, hsz, hP, hK, hD0⟩ := hv
  subst hsz
  have X := gX.ofB (ws := [cPB hPB hTX pb_textLength hPI hBO hLO hMT hSE, cBO hBO bo_width bo_height bo_floor bo_goals bo_live bo_boxes bo_person hBS bo_liveBesideInRow bo_liveBesideInColumn, cSE hSE se_count se_length hSB hSL hSP hSU hSS se_found se_overfull, cJ G hSB sb_n aSB, cI G hSL sl_n aSL, cI G hSP sp_n aSP, cI G hSU su_n aSU, cI G hSS ss_n aSS]) B hml hK hD0
  have hD := hD0.self (sz := s.heap.size)
  generalize hAe : va_A [cPB hPB hTX pb_textLength hPI hBO hLO hMT hSE, cBO hBO bo_width bo_height bo_floor bo_goals bo_live bo_boxes bo_person hBS bo_liveBesideInRow bo_liveBesideInColumn, cSE hSE se_count se_length hSB hSL hSP hSU hSS se_found se_overfull, cJ G hSB sb_n aSB, cI G hSL sl_n aSL, cI G hSP sp_n aSP, cI G hSU su_n aSU, cI G hSS ss_n aSS] s.heap.size = A at X hD ⊢
  have hS : va_S A s.heap s.heap [] := va_S.rf
  have hl := lv_entry ([.ref hPB, .int v1]) (n := 2) (Nat.le_of_ble_eq_true rfl)
  rw [lg_entry_eq]
  generalize (lg_sl ([.ref hPB, .int v1]) ++ List.replicate (2 - (lg_sl ([.ref hPB, .int v1])).length) Slot.unset).toArray = ls at hl ⊢
  have hl : lv_has ls 2 [(0, .ref hPB), (1, .int v1)] := hl
  dsimp only [headSpec]
  unfold PB_search at h
  refine lv_iload_n X.1 X.2.1 dX5_search_0 rfl (lv_at hl 1 rfl) ?_
  refine lv_iconst (v := (1 : Int32)) X.1 X.2.1 dX5_search_1 (by decide) ?_
  refine lv_icmp_lt (tgt := 22) X.1 X.2.1 dX5_search_2 (by decide) (fun hc => ?_) (fun hc => ?_)
  · replace h := Eq.mp (if_pos hc) h
    refine lv_bipush (v := (-3 : Int32)) X.1 X.2.1 dX5_search_22 (by decide) ?_
    refine W.widen (k := bc) (n := bs) (by omega) (by omega) ?_
    exact g_iret X (se_count, se_length, se_found, se_overfull, sb_n, aSB, sl_n, aSL, sp_n, aSP, su_n, aSU, ss_n, aSS, hSB, hSL, hSP, hSU, hSS) h hP hD hS dX5_search_24
  · replace h := Eq.mp (if_neg hc) h
    refine lv_iload_n X.1 X.2.1 dX5_search_5 rfl (lv_at hl 1 rfl) ?_
    refine lv_sipush (v := (10000 : Int32)) X.1 X.2.1 dX5_search_6 (by decide) ?_
    refine lv_icmp_gt (tgt := 22) X.1 X.2.1 dX5_search_9 (by decide) (fun hc => ?_) (fun hc => ?_)
    · replace h := Eq.mp (if_pos hc) h
      refine lv_bipush (v := (-3 : Int32)) X.1 X.2.1 dX5_search_22 (by decide) ?_
      refine W.widen (k := bc) (n := bs) (by omega) (by omega) ?_
      exact g_iret X (se_count, se_length, se_found, se_overfull, sb_n, aSB, sl_n, aSL, sp_n, aSP, su_n, aSU, ss_n, aSS, hSB, hSL, hSP, hSU, hSS) h hP hD hS dX5_search_24
    · replace h := Eq.mp (if_neg hc) h
      refine lv_aload_n X.1 X.2.1 dX5_search_12 rfl (lv_at hl 0 rfl) ?_
      refine g_get X hP 0 5 3 (v := .ref hBO) rfl rfl inX5 (by decide) fl_X5_23 rfl dX5_search_13 ?_
      refine g_ci (wr := [cPB hPB hTX pb_textLength hPI hBO hLO hMT hSE, cSE hSE se_count se_length hSB hSL hSP hSU hSS se_found se_overfull, cJ G hSB sb_n aSB, cI G hSL sl_n aSL, cI G hSP sp_n aSP, cI G hSU su_n aSU, cI G hSS ss_n aSS]) X [1] [0, 2, 3, 4, 5, 6, 7] (g_rV (As := []) (rest := []) X (c_BO_isThere l G hBO hBS bo_width bo_height bo_floor bo_goals bo_live bo_boxes bo_person bo_liveBesideInRow bo_liveBesideInColumn _ h _) lk_X5_95 rfl rfl ⟨Nat.le_of_ble_eq_true rfl, Nat.le_of_ble_eq_true rfl⟩ hP hD hS [1] rfl rfl 1 0 rfl rfl rfl hl.1 rfl (Nat.le_of_ble_eq_true rfl) dX5_search_16 ⟨show 0 + 0 ≤ bc by omega, show 0 + 0 ≤ bs by omega⟩) hP hD hS rfl rfl rfl (by decide) (fun r_1 u H locs h hP hD hS => ?_)
      try dsimp only at h
      replace hP := hP.sub (ws' := [cPB hPB hTX pb_textLength hPI hBO hLO hMT hSE, cBO hBO bo_width bo_height bo_floor bo_goals bo_live bo_boxes bo_person hBS bo_liveBesideInRow bo_liveBesideInColumn, cSE hSE se_count se_length hSB hSL hSP hSU hSS se_found se_overfull, cJ G hSB sb_n aSB, cI G hSL sl_n aSL, cI G hSP sp_n aSP, cI G hSU su_n aSU, cI G hSS ss_n aSS]) [0, 7, 1, 2, 3, 4, 5, 6] rfl
      replace hD := hD.sub (ws' := [cPB hPB hTX pb_textLength hPI hBO hLO hMT hSE, cBO hBO bo_width bo_height bo_floor bo_goals bo_live bo_boxes bo_person hBS bo_liveBesideInRow bo_liveBesideInColumn, cSE hSE se_count se_length hSB hSL hSP hSU hSS se_found se_overfull, cJ G hSB sb_n aSB, cI G hSL sl_n aSL, cI G hSP sp_n aSP, cI G hSU su_n aSU, cI G hSS ss_n aSS]) [0, 7, 1, 2, 3, 4, 5, 6] rfl rfl
      refine lv_if_ne (tgt := 25) X.1 X.2.1 dX5_search_19 (by decide) (fun hc => ?_) (fun hc => ?_)
      · replace h := Eq.mp (if_neg hc) h
        refine lv_aload_n X.1 X.2.1 dX5_search_25 rfl (lv_at hl 0 rfl) ?_
        refine g_get X hP 0 5 6 (v := .ref hSE) rfl rfl inX5 (by decide) fl_X5_44 rfl dX5_search_26 ?_
        refine lv_aload_n X.1 X.2.1 dX5_search_29 rfl (lv_at hl 0 rfl) ?_
        refine g_get X hP 0 5 3 (v := .ref hBO) rfl rfl inX5 (by decide) fl_X5_23 rfl dX5_search_30 ?_
        refine lv_iload_n X.1 X.2.1 dX5_search_33 rfl (lv_at hl 1 rfl) ?_
        obtain ⟨bc_17, bs_18, hb1, hb2, h⟩ := h
        refine g_ci (wr := [cPB hPB hTX pb_textLength hPI hBO hLO hMT hSE]) X [1, 2, 3, 4, 5, 6, 7] [0] (g_rV (As := [.ref hBO, .int v1]) (rest := []) X (c_SE_run l G hBO hBS hSE hSB hSL hSP hSU hSS bo_width bo_height bo_floor bo_goals bo_live bo_boxes bo_person bo_liveBesideInRow bo_liveBesideInColumn se_count se_length se_found se_overfull sb_n aSB sl_n aSL sp_n aSP su_n aSU ss_n aSS v1 bc_17 bs_18 _ h _) lk_X5_210 rfl rfl ⟨Nat.le_of_ble_eq_true rfl, Nat.le_of_ble_eq_true rfl⟩ hP hD hS [1, 2, 3, 4, 5, 6, 7] rfl rfl 2 4 rfl rfl rfl hl.1 rfl (Nat.le_of_ble_eq_true rfl) dX5_search_34 ⟨show 0 + bc_17 ≤ bc by omega, show 0 + bs_18 ≤ bs by omega⟩) hP hD hS rfl rfl rfl (by decide) (fun r_2 u H locs h hP hD hS => ?_)
        obtain ⟨se_count_3, se_length_4, se_found_5, se_overfull_6, sb_n_7, aSB_8, sl_n_9, aSL_10, sp_n_11, aSP_12, su_n_13, aSU_14, ss_n_15, aSS_16, hSB_19, hSL_20, hSP_21, hSU_22, hSS_23⟩ := u
        try dsimp only at h
        replace hP := hP.sub (ws' := [cPB hPB hTX pb_textLength hPI hBO hLO hMT hSE, cBO hBO bo_width bo_height bo_floor bo_goals bo_live bo_boxes bo_person hBS bo_liveBesideInRow bo_liveBesideInColumn, cSE hSE se_count_3 se_length_4 hSB_19 hSL_20 hSP_21 hSU_22 hSS_23 se_found_5 se_overfull_6, cJ G hSB_19 sb_n_7 aSB_8, cI G hSL_20 sl_n_9 aSL_10, cI G hSP_21 sp_n_11 aSP_12, cI G hSU_22 su_n_13 aSU_14, cI G hSS_23 ss_n_15 aSS_16]) [0, 1, 2, 3, 4, 5, 6, 7] rfl
        replace hD := hD.sub (ws' := [cPB hPB hTX pb_textLength hPI hBO hLO hMT hSE, cBO hBO bo_width bo_height bo_floor bo_goals bo_live bo_boxes bo_person hBS bo_liveBesideInRow bo_liveBesideInColumn, cSE hSE se_count_3 se_length_4 hSB_19 hSL_20 hSP_21 hSU_22 hSS_23 se_found_5 se_overfull_6, cJ G hSB_19 sb_n_7 aSB_8, cI G hSL_20 sl_n_9 aSL_10, cI G hSP_21 sp_n_11 aSP_12, cI G hSU_22 su_n_13 aSU_14, cI G hSS_23 ss_n_15 aSS_16]) [0, 1, 2, 3, 4, 5, 6, 7] rfl rfl
        refine W.widen (k := bc) (n := bs) (by omega) (by omega) ?_
        exact g_iret X (se_count_3, se_length_4, se_found_5, se_overfull_6, sb_n_7, aSB_8, sl_n_9, aSL_10, sp_n_11, aSP_12, su_n_13, aSU_14, ss_n_15, aSS_16, hSB_19, hSL_20, hSP_21, hSU_22, hSS_23) h hP hD hS dX5_search_37
      · replace h := Eq.mp (if_pos hc) h
        refine lv_bipush (v := (-3 : Int32)) X.1 X.2.1 dX5_search_22 (by decide) ?_
        refine W.widen (k := bc) (n := bs) (by omega) (by omega) ?_
        exact g_iret X (se_count, se_length, se_found, se_overfull, sb_n, aSB, sl_n, aSL, sp_n, aSP, su_n, aSU, ss_n, aSS, hSB, hSL, hSP, hSU, hSS) h hP hD hS dX5_search_24
abbrev rm_PB_push : Room := { frames := 1, cells := 0, slots := 0, locals := 23 }
set_option maxHeartbeats 4000000 in
set_option maxRecDepth 100000 in
theorem c_PB_push (l : Launch) (G : gEnv) (hPB : Nat) (hTX : Nat) (hPI : Nat) (hBO : Nat) (hLO : Nat) (hMT : Nat) (hSE : Nat) (hSB : Nat) (hSL : Nat) (hSP : Nat) (hSU : Nat) (hSS : Nat) (pb_textLength : Int32) (se_count : Int32) (se_length : Int32) (se_found : Int32) (se_overfull : Int32) (sp_n : Nat) (aSP : Nat → Int32) (su_n : Nat) (aSU : Nat → Int32) (v1 : Int32) (post : Int32 → Prop) (h : PB_push se_length se_found sp_n aSP su_n aSU v1 post) (sz : Nat) : Met l yX5_push (Cond.code yX5_push cX5_push 2 (some .int) :: wAll) (rm_PB_push) (gPc G [.ref hPB, .int v1] [cPB hPB hTX pb_textLength hPI hBO hLO hMT hSE, cSE hSE se_count se_length hSB hSL hSP hSU hSS se_found se_overfull, cI G hSP sp_n aSP, cI G hSU su_n aSU] sz) (gQi G (fun (r : Int32) (u : Unit) => post r ) (fun (u : Unit) => [cPB hPB hTX pb_textLength hPI hBO hLO hMT hSE, cSE hSE se_count se_length hSB hSL hSP hSU hSS se_found se_overfull, cI G hSP sp_n aSP, cI G hSU su_n aSU]) (va_A [cPB hPB hTX pb_textLength hPI hBO hLO hMT hSE, cSE hSE se_count se_length hSB hSL hSP hSU hSS se_found se_overfull, cI G hSP sp_n aSP, cI G hSU su_n aSU] sz)) 0 0 (va_A [cPB hPB hTX pb_textLength hPI hBO hLO hMT hSE, cSE hSE se_count se_length hSB hSL hSP hSU hSS se_found se_overfull, cI G hSP sp_n aSP, cI G hSU su_n aSU] sz) := by
  refine Met.ofW (cc := cX5_push) (maxL := 2) (ret := (some .int)) (by decide) rfl ?_
  intro p e s m args below meth c s₁ B hml hv
  obtain ⟨rfl, hsz, hP, hK, hD0⟩ := hv
  subst hsz
  have X := gX.ofB (ws := [cPB hPB hTX pb_textLength hPI hBO hLO hMT hSE, cSE hSE se_count se_length hSB hSL hSP hSU hSS se_found se_overfull, cI G hSP sp_n aSP, cI G hSU su_n aSU]) B hml hK hD0
  have hD := hD0.self (sz := s.heap.size)
  generalize hAe : va_A [cPB hPB hTX pb_textLength hPI hBO hLO hMT hSE, cSE hSE se_count se_length hSB hSL hSP hSU hSS se_found se_overfull, cI G hSP sp_n aSP, cI G hSU su_n aSU] s.heap.size = A at X hD ⊢
  have hS : va_S A s.heap s.heap [] := va_S.rf
  have hl := lv_entry ([.ref hPB, .int v1]) (n := 2) (Nat.le_of_ble_eq_true rfl)
  rw [lg_entry_eq]
  generalize (lg_sl ([.ref hPB, .int v1]) ++ List.replicate (2 - (lg_sl ([.ref hPB, .int v1])).length) Slot.unset).toArray = ls at hl ⊢
  have hl : lv_has ls 2 [(0, .ref hPB), (1, .int v1)] := hl
  dsimp only [headSpec]
  unfold PB_push at h
  refine lv_iload_n X.1 X.2.1 dX5_push_0 rfl (lv_at hl 1 rfl) ?_
  refine lv_if_lt (tgt := 15) X.1 X.2.1 dX5_push_1 (by decide) (fun hc => ?_) (fun hc => ?_)
  · replace h := Eq.mp (if_pos hc) h
    refine lv_iconst (v := (-1 : Int32)) X.1 X.2.1 dX5_push_15 (by decide) ?_
    refine lv_goto (tgt := 27) X.1 X.2.1 dX5_push_16 (by decide) ?_
    exact g_iret X () h hP hD hS dX5_push_27
  · replace h := Eq.mp (if_neg hc) h
    refine lv_iload_n X.1 X.2.1 dX5_push_4 rfl (lv_at hl 1 rfl) ?_
    refine lv_aload_n X.1 X.2.1 dX5_push_5 rfl (lv_at hl 0 rfl) ?_
    refine g_get X hP 0 5 6 (v := .ref hSE) rfl rfl inX5 (by decide) fl_X5_44 rfl dX5_push_6 ?_
    refine g_get X hP 1 4 1 (v := .int se_length) rfl rfl inX4 (by decide) fl_X5_214 rfl dX5_push_9 ?_
    refine lv_icmp_lt (tgt := 19) X.1 X.2.1 dX5_push_12 (by decide) (fun hc => ?_) (fun hc => ?_)
    · replace h := Eq.mp (if_pos hc) h
      refine lv_aload_n X.1 X.2.1 dX5_push_19 rfl (lv_at hl 0 rfl) ?_
      refine g_get X hP 0 5 6 (v := .ref hSE) rfl rfl inX5 (by decide) fl_X5_44 rfl dX5_push_20 ?_
      refine lv_iload_n X.1 X.2.1 dX5_push_23 rfl (lv_at hl 1 rfl) ?_
      refine g_ci (wr := [cPB hPB hTX pb_textLength hPI hBO hLO hMT hSE]) X [1, 2, 3] [0] (g_rV (As := [.int v1]) (rest := []) X (c_SE_pushAt l G hSE hSB hSL hSP hSU hSS se_count se_length se_found se_overfull sp_n aSP su_n aSU v1 _ h _) lk_X5_217 rfl rfl ⟨Nat.le_of_ble_eq_true rfl, Nat.le_of_ble_eq_true rfl⟩ hP hD hS [1, 2, 3] rfl rfl 1 4 rfl rfl rfl hl.1 rfl (Nat.le_of_ble_eq_true rfl) dX5_push_24 ⟨Nat.le_of_ble_eq_true rfl, Nat.le_of_ble_eq_true rfl⟩) hP hD hS rfl rfl rfl (by decide) (fun r_1 u H locs h hP hD hS => ?_)
      try dsimp only at h
      replace hP := hP.sub (ws' := [cPB hPB hTX pb_textLength hPI hBO hLO hMT hSE, cSE hSE se_count se_length hSB hSL hSP hSU hSS se_found se_overfull, cI G hSP sp_n aSP, cI G hSU su_n aSU]) [0, 1, 2, 3] rfl
      replace hD := hD.sub (ws' := [cPB hPB hTX pb_textLength hPI hBO hLO hMT hSE, cSE hSE se_count se_length hSB hSL hSP hSU hSS se_found se_overfull, cI G hSP sp_n aSP, cI G hSU su_n aSU]) [0, 1, 2, 3] rfl rfl
      exact g_iret X () h hP hD hS dX5_push_27
    · replace h := Eq.mp (if_neg hc) h
      refine lv_iconst (v := (-1 : Int32)) X.1 X.2.1 dX5_push_15 (by decide) ?_
      refine lv_goto (tgt := 27) X.1 X.2.1 dX5_push_16 (by decide) ?_
      exact g_iret X () h hP hD hS dX5_push_27
abbrev rm_PB_states : Room := { frames := 0, cells := 0, slots := 0, locals := 0 }
set_option maxHeartbeats 4000000 in
set_option maxRecDepth 100000 in
theorem c_PB_states (l : Launch) (G : gEnv) (hPB : Nat) (hTX : Nat) (hPI : Nat) (hBO : Nat) (hLO : Nat) (hMT : Nat) (hSE : Nat) (hSB : Nat) (hSL : Nat) (hSP : Nat) (hSU : Nat) (hSS : Nat) (pb_textLength : Int32) (se_count : Int32) (se_length : Int32) (se_found : Int32) (se_overfull : Int32) (post : Int32 → Prop) (h : PB_states se_count post) (sz : Nat) : Met l yX5_states (Cond.code yX5_states cX5_states 1 (some .int) :: wAll) (rm_PB_states) (gPc G [.ref hPB] [cPB hPB hTX pb_textLength hPI hBO hLO hMT hSE, cSE hSE se_count se_length hSB hSL hSP hSU hSS se_found se_overfull] sz) (gQi G (fun (r : Int32) (u : Unit) => post r ) (fun (u : Unit) => [cPB hPB hTX pb_textLength hPI hBO hLO hMT hSE, cSE hSE se_count se_length hSB hSL hSP hSU hSS se_found se_overfull]) (va_A [cPB hPB hTX pb_textLength hPI hBO hLO hMT hSE, cSE hSE se_count se_length hSB hSL hSP hSU hSS se_found se_overfull] sz)) 0 0 (va_A [cPB hPB hTX pb_textLength hPI hBO hLO hMT hSE, cSE hSE se_count se_length hSB hSL hSP hSU hSS se_found se_overfull] sz) := by
  refine Met.ofW (cc := cX5_states) (maxL := 1) (ret := (some .int)) (by decide) rfl ?_
  intro p e s m args below meth c s₁ B hml hv
  obtain ⟨rfl, hsz, hP, hK, hD0⟩ := hv
  subst hsz
  have X := gX.ofB (ws := [cPB hPB hTX pb_textLength hPI hBO hLO hMT hSE, cSE hSE se_count se_length hSB hSL hSP hSU hSS se_found se_overfull]) B hml hK hD0
  have hD := hD0.self (sz := s.heap.size)
  generalize hAe : va_A [cPB hPB hTX pb_textLength hPI hBO hLO hMT hSE, cSE hSE se_count se_length hSB hSL hSP hSU hSS se_found se_overfull] s.heap.size = A at X hD ⊢
  have hS : va_S A s.heap s.heap [] := va_S.rf
  have hl := lv_entry ([.ref hPB]) (n := 1) (Nat.le_of_ble_eq_true rfl)
  rw [lg_entry_eq]
  generalize (lg_sl ([.ref hPB]) ++ List.replicate (1 - (lg_sl ([.ref hPB])).length) Slot.unset).toArray = ls at hl ⊢
  have hl : lv_has ls 1 [(0, .ref hPB)] := hl
  dsimp only [headSpec]
  unfold PB_states at h
  refine lv_aload_n X.1 X.2.1 dX5_states_0 rfl (lv_at hl 0 rfl) ?_
  refine g_get X hP 0 5 6 (v := .ref hSE) rfl rfl inX5 (by decide) fl_X5_44 rfl dX5_states_1 ?_
  refine g_get X hP 1 4 0 (v := .int se_count) rfl rfl inX4 (by decide) fl_X5_220 rfl dX5_states_4 ?_
  exact g_iret X () h hP hD hS dX5_states_7
