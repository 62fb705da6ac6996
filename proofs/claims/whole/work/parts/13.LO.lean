abbrev rm_LO_clear : Room := { frames := 0, cells := 0, slots := 0, locals := 0 }
set_option maxHeartbeats 4000000 in
set_option maxRecDepth 100000 in
theorem c_LO_clear (l : Launch) (G : gEnv) (hLO : Nat) (hMA : Nat) (lo_kept : Int32) (lo_moves : Int32) (lo_pushed : Int32) (lo_end : Int32) (post : Int32 → Int32 → Int32 → Int32 → Prop) (h : LO_clear lo_kept lo_moves lo_pushed lo_end post) (sz : Nat) : Met l yX1_clear (Cond.code yX1_clear cX1_clear 1 none :: wAll) (rm_LO_clear) (gPc G [.ref hLO] [cLO hLO lo_kept lo_moves lo_pushed hMA lo_end] sz) (gQv G (fun (u : Int32 × Int32 × Int32 × Int32) => post u.1 u.2.1 u.2.2.1 u.2.2.2) (fun (u : Int32 × Int32 × Int32 × Int32) => [cLO hLO u.1 u.2.1 u.2.2.1 hMA u.2.2.2]) (va_A [cLO hLO lo_kept lo_moves lo_pushed hMA lo_end] sz)) 0 0 (va_A [cLO hLO lo_kept lo_moves lo_pushed hMA lo_end] sz) := by
  refine Met.ofW (cc := cX1_clear) (maxL := 1) (ret := none) (by decide) rfl ?_
  intro p e s m args below meth c s₁ B hml hv
  obtain ⟨rfl, hsz, hP, hK, hD0⟩ := hv
  subst hsz
  have X := gX.ofB (ws := [cLO hLO lo_kept lo_moves lo_pushed hMA lo_end]) B hml hK hD0
  have hD := hD0.self (sz := s.heap.size)
  generalize hAe : va_A [cLO hLO lo_kept lo_moves lo_pushed hMA lo_end] s.heap.size = A at X hD ⊢
  have hS : va_S A s.heap s.heap [] := va_S.rf
  have hl := lv_entry ([.ref hLO]) (n := 1) (Nat.le_of_ble_eq_true rfl)
  rw [lg_entry_eq]
  generalize (lg_sl ([.ref hLO]) ++ List.replicate (1 - (lg_sl ([.ref hLO])).length) Slot.unset).toArray = ls at hl ⊢
  have hl : lv_has ls 1 [(0, .ref hLO)] := hl
  dsimp only [headSpec]
  unfold LO_clear at h
  refine lv_aload_n X.1 X.2.1 dX1_clear_0 rfl (lv_at hl 0 rfl) ?_
  refine lv_iconst (v := (0 : Int32)) X.1 X.2.1 dX1_clear_1 (by decide) ?_
  refine g_put X hP hD hS 0 1 0 (v := .int (0 : Int32)) rfl rfl inX1 tyX1 tyX1_ok nmX1 (by decide) fl_X1_13 rfl rfl rfl rfl (Nat.le_of_ble_eq_true rfl) dX1_clear_2 (fun H locs hP hD hS => ?_)
  replace hP : va_P G.1 gCl [cLO hLO (0 : Int32) lo_moves lo_pushed hMA lo_end] H := hP
  replace hD : va_D A [cLO hLO (0 : Int32) lo_moves lo_pushed hMA lo_end] := hD
  refine lv_aload_n X.1 X.2.1 dX1_clear_5 rfl (lv_at hl 0 rfl) ?_
  refine lv_iconst (v := (0 : Int32)) X.1 X.2.1 dX1_clear_6 (by decide) ?_
  refine g_put X hP hD hS 0 1 1 (v := .int (0 : Int32)) rfl rfl inX1 tyX1 tyX1_ok nmX1 (by decide) fl_X1_17 rfl rfl rfl rfl (Nat.le_of_ble_eq_true rfl) dX1_clear_7 (fun H locs hP hD hS => ?_)
  replace hP : va_P G.1 gCl [cLO hLO (0 : Int32) (0 : Int32) lo_pushed hMA lo_end] H := hP
  replace hD : va_D A [cLO hLO (0 : Int32) (0 : Int32) lo_pushed hMA lo_end] := hD
  refine lv_aload_n X.1 X.2.1 dX1_clear_10 rfl (lv_at hl 0 rfl) ?_
  refine lv_iconst (v := (0 : Int32)) X.1 X.2.1 dX1_clear_11 (by decide) ?_
  refine g_put X hP hD hS 0 1 2 (v := .int (0 : Int32)) rfl rfl inX1 tyX1 tyX1_ok nmX1 (by decide) fl_X1_20 rfl rfl rfl rfl (Nat.le_of_ble_eq_true rfl) dX1_clear_12 (fun H locs hP hD hS => ?_)
  replace hP : va_P G.1 gCl [cLO hLO (0 : Int32) (0 : Int32) (0 : Int32) hMA lo_end] H := hP
  replace hD : va_D A [cLO hLO (0 : Int32) (0 : Int32) (0 : Int32) hMA lo_end] := hD
  refine lv_aload_n X.1 X.2.1 dX1_clear_15 rfl (lv_at hl 0 rfl) ?_
  refine lv_iconst (v := (0 : Int32)) X.1 X.2.1 dX1_clear_16 (by decide) ?_
  refine g_put X hP hD hS 0 1 4 (v := .int (0 : Int32)) rfl rfl inX1 tyX1 tyX1_ok nmX1 (by decide) fl_X1_23 rfl rfl rfl rfl (Nat.le_of_ble_eq_true rfl) dX1_clear_17 (fun H locs hP hD hS => ?_)
  replace hP : va_P G.1 gCl [cLO hLO (0 : Int32) (0 : Int32) (0 : Int32) hMA (0 : Int32)] H := hP
  replace hD : va_D A [cLO hLO (0 : Int32) (0 : Int32) (0 : Int32) hMA (0 : Int32)] := hD
  exact g_vret X ((0 : Int32), (0 : Int32), (0 : Int32), (0 : Int32)) h hP hD hS dX1_clear_20
abbrev rm_LO_add : Room := { frames := 1, cells := 0, slots := 0, locals := 21 }
set_option maxHeartbeats 4000000 in
set_option maxRecDepth 100000 in
theorem s_LO_add_19 {p : Program} {l : Launch} {e : Env} {s : State} {m : MethodId} {args : Array Value} {below : List Frame} {meth : Method} {c : Code} {G : gEnv} {A : Nat → Prop} {hLO : Nat} {hMA : Nat} {post : Int32 → Int32 → Int32 → Int32 → (Nat → Int32) → Prop} (X : gX p m meth c cX1_add 3 RX1 none s args G A)  : ∀ (lo_kept : Int32) (lo_moves : Int32) (lo_pushed : Int32) (lo_end : Int32) (aMA : (Nat → Int32)) (v2 : Int32) (t1 : Int32) (t2 : Int32) (H : Heap) (locs : List Loc) (ls : Array Slot), LO_add_19 post lo_kept lo_moves lo_pushed lo_end aMA v2 t1 t2 → va_P G.1 gCl [cLO hLO lo_kept lo_moves lo_pushed hMA lo_end, cI G hMA 500 aMA] H → va_D A [cLO hLO lo_kept lo_moves lo_pushed hMA lo_end, cI G hMA 500 aMA] → va_S A s.heap H locs → lv_has ls 3 [(0, .ref hLO), (2, .int v2)] → W p l e rm_LO_add s m args below meth c H locs 0 0 (MQ below (gQv G (fun (u : Int32 × Int32 × Int32 × Int32 × (Nat → Int32)) => post u.1 u.2.1 u.2.2.1 u.2.2.2.1 u.2.2.2.2) (fun (u : Int32 × Int32 × Int32 × Int32 × (Nat → Int32)) => [cLO hLO u.1 u.2.1 u.2.2.1 hMA u.2.2.2.1, cI G hMA 500 u.2.2.2.2]) A) args s 0 0 A) (F0 m 19 ls [.int t2, .int t1, .ref hMA]) := by
  intro lo_kept lo_moves lo_pushed lo_end aMA v2 t1 t2 H locs ls h hP hD hS hl
  unfold LO_add_19 at h
  obtain ⟨hin, h⟩ := h
  refine g_ist X hP hD hS 1 rfl hin dX1_add_19 (fun aMA_1 e_aMA_1 H locs hP hD hS => ?_)
  replace h := h aMA_1 e_aMA_1
  replace hP : va_P G.1 gCl [cLO hLO lo_kept lo_moves lo_pushed hMA lo_end, cI G hMA 500 aMA_1] H := hP
  replace hD : va_D A [cLO hLO lo_kept lo_moves lo_pushed hMA lo_end, cI G hMA 500 aMA_1] := hD
  refine lv_aload_n X.1 X.2.1 dX1_add_20 rfl (lv_at hl 0 rfl) ?_
  refine lv_aload_n X.1 X.2.1 dX1_add_21 rfl (lv_at hl 0 rfl) ?_
  refine g_get X hP 0 1 4 (v := .int lo_end) rfl rfl inX1 (by decide) fl_X1_23 rfl dX1_add_22 ?_
  refine lv_iconst (v := (1 : Int32)) X.1 X.2.1 dX1_add_25 (by decide) ?_
  refine lv_iadd X.1 X.2.1 dX1_add_26 ?_
  refine lv_sipush (v := (500 : Int32)) X.1 X.2.1 dX1_add_27 (by decide) ?_
  refine lv_irem X.1 X.2.1 dX1_add_30 (by decide) ?_
  refine lv_topi (fun lo_end_2 e_lo_end_2 => ?_)
  replace h := h lo_end_2 e_lo_end_2
  refine g_put X hP hD hS 0 1 4 (v := .int lo_end_2) rfl rfl inX1 tyX1 tyX1_ok nmX1 (by decide) fl_X1_23 rfl rfl rfl rfl (Nat.le_of_ble_eq_true rfl) dX1_add_31 (fun H locs hP hD hS => ?_)
  replace hP : va_P G.1 gCl [cLO hLO lo_kept lo_moves lo_pushed hMA lo_end_2, cI G hMA 500 aMA_1] H := hP
  replace hD : va_D A [cLO hLO lo_kept lo_moves lo_pushed hMA lo_end_2, cI G hMA 500 aMA_1] := hD
  refine lv_aload_n X.1 X.2.1 dX1_add_34 rfl (lv_at hl 0 rfl) ?_
  refine lv_aload_n X.1 X.2.1 dX1_add_35 rfl (lv_at hl 0 rfl) ?_
  refine g_get X hP 0 1 0 (v := .int lo_kept) rfl rfl inX1 (by decide) fl_X1_13 rfl dX1_add_36 ?_
  refine lv_iconst (v := (1 : Int32)) X.1 X.2.1 dX1_add_39 (by decide) ?_
  refine lv_iadd X.1 X.2.1 dX1_add_40 ?_
  refine lv_sipush (v := (500 : Int32)) X.1 X.2.1 dX1_add_41 (by decide) ?_
  refine g_mmin X hl.1 mt_X1_26 (Nat.le_of_ble_eq_true rfl) (Nat.le_of_ble_eq_true rfl) (Nat.le_of_ble_eq_true rfl) (Nat.le_of_ble_eq_true rfl) dX1_add_44 ?_
  refine lv_topi (fun lo_kept_3 e_lo_kept_3 => ?_)
  replace h := h lo_kept_3 e_lo_kept_3
  refine g_put X hP hD hS 0 1 0 (v := .int lo_kept_3) rfl rfl inX1 tyX1 tyX1_ok nmX1 (by decide) fl_X1_13 rfl rfl rfl rfl (Nat.le_of_ble_eq_true rfl) dX1_add_47 (fun H locs hP hD hS => ?_)
  replace hP : va_P G.1 gCl [cLO hLO lo_kept_3 lo_moves lo_pushed hMA lo_end_2, cI G hMA 500 aMA_1] H := hP
  replace hD : va_D A [cLO hLO lo_kept_3 lo_moves lo_pushed hMA lo_end_2, cI G hMA 500 aMA_1] := hD
  refine lv_aload_n X.1 X.2.1 dX1_add_50 rfl (lv_at hl 0 rfl) ?_
  refine lv_dup X.1 X.2.1 dX1_add_51 rfl ?_
  refine g_get X hP 0 1 1 (v := .int lo_moves) rfl rfl inX1 (by decide) fl_X1_17 rfl dX1_add_52 ?_
  refine lv_iconst (v := (1 : Int32)) X.1 X.2.1 dX1_add_55 (by decide) ?_
  refine lv_iadd X.1 X.2.1 dX1_add_56 ?_
  refine lv_topi (fun lo_moves_4 e_lo_moves_4 => ?_)
  replace h := h lo_moves_4 e_lo_moves_4
  refine g_put X hP hD hS 0 1 1 (v := .int lo_moves_4) rfl rfl inX1 tyX1 tyX1_ok nmX1 (by decide) fl_X1_17 rfl rfl rfl rfl (Nat.le_of_ble_eq_true rfl) dX1_add_57 (fun H locs hP hD hS => ?_)
  replace hP : va_P G.1 gCl [cLO hLO lo_kept_3 lo_moves_4 lo_pushed hMA lo_end_2, cI G hMA 500 aMA_1] H := hP
  replace hD : va_D A [cLO hLO lo_kept_3 lo_moves_4 lo_pushed hMA lo_end_2, cI G hMA 500 aMA_1] := hD
  refine lv_aload_n X.1 X.2.1 dX1_add_60 rfl (lv_at hl 0 rfl) ?_
  refine lv_dup X.1 X.2.1 dX1_add_61 rfl ?_
  refine g_get X hP 0 1 2 (v := .int lo_pushed) rfl rfl inX1 (by decide) fl_X1_20 rfl dX1_add_62 ?_
  refine lv_iload_n X.1 X.2.1 dX1_add_65 rfl (lv_at hl 1 rfl) ?_
  refine lv_if_eq (tgt := 73) X.1 X.2.1 dX1_add_66 (by decide) (fun hc => ?_) (fun hc => ?_)
  · replace h := Eq.mp (if_pos hc) h
    refine lv_iconst (v := (0 : Int32)) X.1 X.2.1 dX1_add_73 (by decide) ?_
    refine lv_iadd X.1 X.2.1 dX1_add_74 ?_
    refine lv_topi (fun lo_pushed_5 e_lo_pushed_5 => ?_)
    replace h := h lo_pushed_5 e_lo_pushed_5
    refine g_put X hP hD hS 0 1 2 (v := .int lo_pushed_5) rfl rfl inX1 tyX1 tyX1_ok nmX1 (by decide) fl_X1_20 rfl rfl rfl rfl (Nat.le_of_ble_eq_true rfl) dX1_add_75 (fun H locs hP hD hS => ?_)
    replace hP : va_P G.1 gCl [cLO hLO lo_kept_3 lo_moves_4 lo_pushed_5 hMA lo_end_2, cI G hMA 500 aMA_1] H := hP
    replace hD : va_D A [cLO hLO lo_kept_3 lo_moves_4 lo_pushed_5 hMA lo_end_2, cI G hMA 500 aMA_1] := hD
    exact g_vret X (lo_kept_3, lo_moves_4, lo_pushed_5, lo_end_2, aMA_1) h hP hD hS dX1_add_78
  · replace h := Eq.mp (if_neg hc) h
    refine lv_iconst (v := (1 : Int32)) X.1 X.2.1 dX1_add_69 (by decide) ?_
    refine lv_goto (tgt := 74) X.1 X.2.1 dX1_add_70 (by decide) ?_
    refine lv_iadd X.1 X.2.1 dX1_add_74 ?_
    refine lv_topi (fun lo_pushed_6 e_lo_pushed_6 => ?_)
    replace h := h lo_pushed_6 e_lo_pushed_6
    refine g_put X hP hD hS 0 1 2 (v := .int lo_pushed_6) rfl rfl inX1 tyX1 tyX1_ok nmX1 (by decide) fl_X1_20 rfl rfl rfl rfl (Nat.le_of_ble_eq_true rfl) dX1_add_75 (fun H locs hP hD hS => ?_)
    replace hP : va_P G.1 gCl [cLO hLO lo_kept_3 lo_moves_4 lo_pushed_6 hMA lo_end_2, cI G hMA 500 aMA_1] H := hP
    replace hD : va_D A [cLO hLO lo_kept_3 lo_moves_4 lo_pushed_6 hMA lo_end_2, cI G hMA 500 aMA_1] := hD
    exact g_vret X (lo_kept_3, lo_moves_4, lo_pushed_6, lo_end_2, aMA_1) h hP hD hS dX1_add_78
set_option maxHeartbeats 4000000 in
set_option maxRecDepth 100000 in
theorem c_LO_add (l : Launch) (G : gEnv) (hLO : Nat) (hMA : Nat) (lo_kept : Int32) (lo_moves : Int32) (lo_pushed : Int32) (lo_end : Int32) (aMA : Nat → Int32) (v1 : Int32) (v2 : Int32) (post : Int32 → Int32 → Int32 → Int32 → (Nat → Int32) → Prop) (h : LO_add lo_kept lo_moves lo_pushed lo_end aMA v1 v2 post) (sz : Nat) : Met l yX1_add (Cond.code yX1_add cX1_add 3 none :: wAll) (rm_LO_add) (gPc G [.ref hLO, .int v1, .int v2] [cLO hLO lo_kept lo_moves lo_pushed hMA lo_end, cI G hMA 500 aMA] sz) (gQv G (fun (u : Int32 × Int32 × Int32 × Int32 × (Nat → Int32)) => post u.1 u.2.1 u.2.2.1 u.2.2.2.1 u.2.2.2.2) (fun (u : Int32 × Int32 × Int32 × Int32 × (Nat → Int32)) => [cLO hLO u.1 u.2.1 u.2.2.1 hMA u.2.2.2.1, cI G hMA 500 u.2.2.2.2]) (va_A [cLO hLO lo_kept lo_moves lo_pushed hMA lo_end, cI G hMA 500 aMA] sz)) 0 0 (va_A [cLO hLO lo_kept lo_moves lo_pushed hMA lo_end, cI G hMA 500 aMA] sz) := by
  refine Met.ofW (cc := cX1_add) (maxL := 3) (ret := none) (by decide) rfl ?_
  intro p e s m args below meth c s₁ B hml hv
  obtain ⟨rfl, hsz, hP, hK, hD0⟩ := hv
  subst hsz
  have X := gX.ofB (ws := [cLO hLO lo_kept lo_moves lo_pushed hMA lo_end, cI G hMA 500 aMA]) B hml hK hD0
  have hD := hD0.self (sz := s.heap.size)
  generalize hAe : va_A [cLO hLO lo_kept lo_moves lo_pushed hMA lo_end, cI G hMA 500 aMA] s.heap.size = A at X hD ⊢
  have hS : va_S A s.heap s.heap [] := va_S.rf
  have hl := lv_entry ([.ref hLO, .int v1, .int v2]) (n := 3) (Nat.le_of_ble_eq_true rfl)
  rw [lg_entry_eq]
  generalize (lg_sl ([.ref hLO, .int v1, .int v2]) ++ List.replicate (3 - (lg_sl ([.ref hLO, .int v1, .int v2])).length) Slot.unset).toArray = ls at hl ⊢
  have hl : lv_has ls 3 [(0, .ref hLO), (1, .int v1), (2, .int v2)] := hl
  dsimp only [headSpec]
  unfold LO_add at h
  refine lv_aload_n X.1 X.2.1 dX1_add_0 rfl (lv_at hl 0 rfl) ?_
  refine g_get X hP 0 1 3 (v := .ref hMA) rfl rfl inX1 (by decide) fl_X1_9 rfl dX1_add_1 ?_
  refine lv_aload_n X.1 X.2.1 dX1_add_4 rfl (lv_at hl 0 rfl) ?_
  refine g_get X hP 0 1 4 (v := .int lo_end) rfl rfl inX1 (by decide) fl_X1_23 rfl dX1_add_5 ?_
  refine lv_iload_n X.1 X.2.1 dX1_add_8 rfl (lv_at hl 2 rfl) ?_
  refine lv_if_eq (tgt := 18) X.1 X.2.1 dX1_add_9 (by decide) (fun hc => ?_) (fun hc => ?_)
  · replace h := Eq.mp (if_pos hc) h
    refine lv_iload_n X.1 X.2.1 dX1_add_18 rfl (lv_at hl 1 rfl) ?_
    exact s_LO_add_19 X  lo_kept lo_moves lo_pushed lo_end aMA v2 lo_end v1 _ _ _ h hP hD hS (lv_sub hl [0, 2] rfl)
  · replace h := Eq.mp (if_neg hc) h
    refine lv_iload_n X.1 X.2.1 dX1_add_12 rfl (lv_at hl 1 rfl) ?_
    refine lv_iconst (v := (4 : Int32)) X.1 X.2.1 dX1_add_13 (by decide) ?_
    refine lv_iadd X.1 X.2.1 dX1_add_14 ?_
    refine lv_goto (tgt := 19) X.1 X.2.1 dX1_add_15 (by decide) ?_
    exact s_LO_add_19 X  lo_kept lo_moves lo_pushed lo_end aMA v2 lo_end (v1 + (4 : Int32)) _ _ _ h hP hD hS (lv_sub hl [0, 2] rfl)
abbrev rm_LO_isPush : Room := { frames := 0, cells := 0, slots := 0, locals := 0 }
set_option maxHeartbeats 4000000 in
set_option maxRecDepth 100000 in
theorem c_LO_isPush (l : Launch) (G : gEnv) (v0 : Int32) (post : Int32 → Prop) (h : LO_isPush v0 post) (sz : Nat) : Met l yX1_isPush (Cond.code yX1_isPush cX1_isPush 1 (some .boolean) :: wAll) (rm_LO_isPush) (gPc G [.int v0] [] sz) (gQi G (fun (r : Int32) (u : Unit) => post r ) (fun (u : Unit) => []) (va_A [] sz)) 0 0 (va_A [] sz) := by
  refine Met.ofW (cc := cX1_isPush) (maxL := 1) (ret := (some .boolean)) (by decide) rfl ?_
  intro p e s m args below meth c s₁ B hml hv
  obtain ⟨rfl, hsz, hP, hK, hD0⟩ := hv
  subst hsz
  have X := gX.ofB (ws := []) B hml hK hD0
  have hD := hD0.self (sz := s.heap.size)
  generalize hAe : va_A [] s.heap.size = A at X hD ⊢
  have hS : va_S A s.heap s.heap [] := va_S.rf
  have hl := lv_entry ([.int v0]) (n := 1) (Nat.le_of_ble_eq_true rfl)
  rw [lg_entry_eq]
  generalize (lg_sl ([.int v0]) ++ List.replicate (1 - (lg_sl ([.int v0])).length) Slot.unset).toArray = ls at hl ⊢
  have hl : lv_has ls 1 [(0, .int v0)] := hl
  dsimp only [headSpec]
  unfold LO_isPush at h
  refine lv_iload_n X.1 X.2.1 dX1_isPush_0 rfl (lv_at hl 0 rfl) ?_
  refine lv_iconst (v := (4 : Int32)) X.1 X.2.1 dX1_isPush_1 (by decide) ?_
  refine lv_icmp_lt (tgt := 9) X.1 X.2.1 dX1_isPush_2 (by decide) (fun hc => ?_) (fun hc => ?_)
  · replace h := Eq.mp (if_pos hc) h
    refine lv_iconst (v := (0 : Int32)) X.1 X.2.1 dX1_isPush_9 (by decide) ?_
    exact g_zret X (by decide) () h hP hD hS dX1_isPush_10
  · replace h := Eq.mp (if_neg hc) h
    refine lv_iconst (v := (1 : Int32)) X.1 X.2.1 dX1_isPush_5 (by decide) ?_
    refine lv_goto (tgt := 10) X.1 X.2.1 dX1_isPush_6 (by decide) ?_
    exact g_zret X (by decide) () h hP hD hS dX1_isPush_10
abbrev rm_LO_takeLast : Room := { frames := 1, cells := 0, slots := 0, locals := 20 }
set_option maxHeartbeats 4000000 in
set_option maxRecDepth 100000 in
theorem c_LO_takeLast (l : Launch) (G : gEnv) (hLO : Nat) (hMA : Nat) (lo_kept : Int32) (lo_moves : Int32) (lo_pushed : Int32) (lo_end : Int32) (aMA : Nat → Int32) (post : Int32 → Int32 → Int32 → Int32 → Int32 → Prop) (h : LO_takeLast aMA lo_kept lo_moves lo_pushed lo_end post) (sz : Nat) : Met l yX1_takeLast (Cond.code yX1_takeLast cX1_takeLast 2 (some .int) :: wAll) (rm_LO_takeLast) (gPc G [.ref hLO] [cLO hLO lo_kept lo_moves lo_pushed hMA lo_end, cI G hMA 500 aMA] sz) (gQi G (fun (r : Int32) (u : Int32 × Int32 × Int32 × Int32) => post r u.1 u.2.1 u.2.2.1 u.2.2.2) (fun (u : Int32 × Int32 × Int32 × Int32) => [cLO hLO u.1 u.2.1 u.2.2.1 hMA u.2.2.2, cI G hMA 500 aMA]) (va_A [cLO hLO lo_kept lo_moves lo_pushed hMA lo_end, cI G hMA 500 aMA] sz)) 0 0 (va_A [cLO hLO lo_kept lo_moves lo_pushed hMA lo_end, cI G hMA 500 aMA] sz) := by
  refine Met.ofW (cc := cX1_takeLast) (maxL := 2) (ret := (some .int)) (by decide) rfl ?_
  intro p e s m args below meth c s₁ B hml hv
  obtain ⟨rfl, hsz, hP, hK, hD0⟩ := hv
  subst hsz
  have X := gX.ofB (ws := [cLO hLO lo_kept lo_moves lo_pushed hMA lo_end, cI G hMA 500 aMA]) B hml hK hD0
  have hD := hD0.self (sz := s.heap.size)
  generalize hAe : va_A [cLO hLO lo_kept lo_moves lo_pushed hMA lo_end, cI G hMA 500 aMA] s.heap.size = A at X hD ⊢
  have hS : va_S A s.heap s.heap [] := va_S.rf
  have hl := lv_entry ([.ref hLO]) (n := 2) (Nat.le_of_ble_eq_true rfl)
  rw [lg_entry_eq]
  generalize (lg_sl ([.ref hLO]) ++ List.replicate (2 - (lg_sl ([.ref hLO])).length) Slot.unset).toArray = ls at hl ⊢
  have hl : lv_has ls 2 [(0, .ref hLO)] := hl
  dsimp only [headSpec]
  unfold LO_takeLast at h
  refine lv_aload_n X.1 X.2.1 dX1_takeLast_0 rfl (lv_at hl 0 rfl) ?_
  refine lv_aload_n X.1 X.2.1 dX1_takeLast_1 rfl (lv_at hl 0 rfl) ?_
  refine g_get X hP 0 1 4 (v := .int lo_end) rfl rfl inX1 (by decide) fl_X1_23 rfl dX1_takeLast_2 ?_
  refine lv_sipush (v := (500 : Int32)) X.1 X.2.1 dX1_takeLast_5 (by decide) ?_
  refine lv_iadd X.1 X.2.1 dX1_takeLast_8 ?_
  refine lv_iconst (v := (1 : Int32)) X.1 X.2.1 dX1_takeLast_9 (by decide) ?_
  refine lv_isub X.1 X.2.1 dX1_takeLast_10 ?_
  refine lv_sipush (v := (500 : Int32)) X.1 X.2.1 dX1_takeLast_11 (by decide) ?_
  refine lv_irem X.1 X.2.1 dX1_takeLast_14 (by decide) ?_
  refine lv_topi (fun lo_end_1 e_lo_end_1 => ?_)
  replace h := h lo_end_1 e_lo_end_1
  refine g_put X hP hD hS 0 1 4 (v := .int lo_end_1) rfl rfl inX1 tyX1 tyX1_ok nmX1 (by decide) fl_X1_23 rfl rfl rfl rfl (Nat.le_of_ble_eq_true rfl) dX1_takeLast_15 (fun H locs hP hD hS => ?_)
  replace hP : va_P G.1 gCl [cLO hLO lo_kept lo_moves lo_pushed hMA lo_end_1, cI G hMA 500 aMA] H := hP
  replace hD : va_D A [cLO hLO lo_kept lo_moves lo_pushed hMA lo_end_1, cI G hMA 500 aMA] := hD
  refine lv_aload_n X.1 X.2.1 dX1_takeLast_18 rfl (lv_at hl 0 rfl) ?_
  refine g_get X hP 0 1 3 (v := .ref hMA) rfl rfl inX1 (by decide) fl_X1_9 rfl dX1_takeLast_19 ?_
  refine lv_aload_n X.1 X.2.1 dX1_takeLast_22 rfl (lv_at hl 0 rfl) ?_
  refine g_get X hP 0 1 4 (v := .int lo_end_1) rfl rfl inX1 (by decide) fl_X1_23 rfl dX1_takeLast_23 ?_
  obtain ⟨hin, h⟩ := h
  refine va_iald (D := G.1) X.1 X.2.1 X.k.1 hP 1 0 rfl rfl hin dX1_takeLast_26 ?_
  refine lv_topi (fun v1_2 e_v1_2 => ?_)
  replace h := h v1_2 e_v1_2
  refine lv_istore_n (lv' := [(1, .int v1_2), (0, .ref hLO)]) X.1 X.2.1 dX1_takeLast_27 rfl hl (by decide) rfl (fun ls hl => ?_)
  refine lv_aload_n X.1 X.2.1 dX1_takeLast_28 rfl (lv_at hl 1 rfl) ?_
  refine lv_dup X.1 X.2.1 dX1_takeLast_29 rfl ?_
  refine g_get X hP 0 1 0 (v := .int lo_kept) rfl rfl inX1 (by decide) fl_X1_13 rfl dX1_takeLast_30 ?_
  refine lv_iconst (v := (1 : Int32)) X.1 X.2.1 dX1_takeLast_33 (by decide) ?_
  refine lv_isub X.1 X.2.1 dX1_takeLast_34 ?_
  refine lv_topi (fun lo_kept_3 e_lo_kept_3 => ?_)
  replace h := h lo_kept_3 e_lo_kept_3
  refine g_put X hP hD hS 0 1 0 (v := .int lo_kept_3) rfl rfl inX1 tyX1 tyX1_ok nmX1 (by decide) fl_X1_13 rfl rfl rfl rfl (Nat.le_of_ble_eq_true rfl) dX1_takeLast_35 (fun H locs hP hD hS => ?_)
  replace hP : va_P G.1 gCl [cLO hLO lo_kept_3 lo_moves lo_pushed hMA lo_end_1, cI G hMA 500 aMA] H := hP
  replace hD : va_D A [cLO hLO lo_kept_3 lo_moves lo_pushed hMA lo_end_1, cI G hMA 500 aMA] := hD
  refine lv_aload_n X.1 X.2.1 dX1_takeLast_38 rfl (lv_at hl 1 rfl) ?_
  refine lv_dup X.1 X.2.1 dX1_takeLast_39 rfl ?_
  refine g_get X hP 0 1 1 (v := .int lo_moves) rfl rfl inX1 (by decide) fl_X1_17 rfl dX1_takeLast_40 ?_
  refine lv_iconst (v := (1 : Int32)) X.1 X.2.1 dX1_takeLast_43 (by decide) ?_
  refine lv_isub X.1 X.2.1 dX1_takeLast_44 ?_
  refine lv_topi (fun lo_moves_4 e_lo_moves_4 => ?_)
  replace h := h lo_moves_4 e_lo_moves_4
  refine g_put X hP hD hS 0 1 1 (v := .int lo_moves_4) rfl rfl inX1 tyX1 tyX1_ok nmX1 (by decide) fl_X1_17 rfl rfl rfl rfl (Nat.le_of_ble_eq_true rfl) dX1_takeLast_45 (fun H locs hP hD hS => ?_)
  replace hP : va_P G.1 gCl [cLO hLO lo_kept_3 lo_moves_4 lo_pushed hMA lo_end_1, cI G hMA 500 aMA] H := hP
  replace hD : va_D A [cLO hLO lo_kept_3 lo_moves_4 lo_pushed hMA lo_end_1, cI G hMA 500 aMA] := hD
  refine lv_aload_n X.1 X.2.1 dX1_takeLast_48 rfl (lv_at hl 1 rfl) ?_
  refine lv_dup X.1 X.2.1 dX1_takeLast_49 rfl ?_
  refine g_get X hP 0 1 2 (v := .int lo_pushed) rfl rfl inX1 (by decide) fl_X1_20 rfl dX1_takeLast_50 ?_
  refine lv_iload_n X.1 X.2.1 dX1_takeLast_53 rfl (lv_at hl 0 rfl) ?_
  refine g_ci (wr := [cLO hLO lo_kept_3 lo_moves_4 lo_pushed hMA lo_end_1, cI G hMA 500 aMA]) X [] [0, 1] (g_rS (As := [.int v1_2]) (rest := [.int lo_pushed, .ref hLO]) X (c_LO_isPush l G v1_2 _ h _) lk_X1_32 rfl rfl ⟨Nat.le_of_ble_eq_true rfl, Nat.le_of_ble_eq_true rfl⟩ hP hD hS [] rfl rfl rfl hl.1 rfl (Nat.le_of_ble_eq_true rfl) dX1_takeLast_54 ⟨Nat.le_of_ble_eq_true rfl, Nat.le_of_ble_eq_true rfl⟩) hP hD hS rfl rfl rfl (by decide) (fun r_5 u H locs h hP hD hS => ?_)
  try dsimp only at h
  replace hP := hP.sub (ws' := [cLO hLO lo_kept_3 lo_moves_4 lo_pushed hMA lo_end_1, cI G hMA 500 aMA]) [0, 1] rfl
  replace hD := hD.sub (ws' := [cLO hLO lo_kept_3 lo_moves_4 lo_pushed hMA lo_end_1, cI G hMA 500 aMA]) [0, 1] rfl rfl
  refine lv_if_eq (tgt := 64) X.1 X.2.1 dX1_takeLast_57 (by decide) (fun hc => ?_) (fun hc => ?_)
  · replace h := Eq.mp (if_pos hc) h
    refine lv_iconst (v := (0 : Int32)) X.1 X.2.1 dX1_takeLast_64 (by decide) ?_
    refine lv_isub X.1 X.2.1 dX1_takeLast_65 ?_
    refine lv_topi (fun lo_pushed_6 e_lo_pushed_6 => ?_)
    replace h := h lo_pushed_6 e_lo_pushed_6
    refine g_put X hP hD hS 0 1 2 (v := .int lo_pushed_6) rfl rfl inX1 tyX1 tyX1_ok nmX1 (by decide) fl_X1_20 rfl rfl rfl rfl (Nat.le_of_ble_eq_true rfl) dX1_takeLast_66 (fun H locs hP hD hS => ?_)
    replace hP : va_P G.1 gCl [cLO hLO lo_kept_3 lo_moves_4 lo_pushed_6 hMA lo_end_1, cI G hMA 500 aMA] H := hP
    replace hD : va_D A [cLO hLO lo_kept_3 lo_moves_4 lo_pushed_6 hMA lo_end_1, cI G hMA 500 aMA] := hD
    refine lv_iload_n X.1 X.2.1 dX1_takeLast_69 rfl (lv_at hl 0 rfl) ?_
    exact g_iret X (lo_kept_3, lo_moves_4, lo_pushed_6, lo_end_1) h hP hD hS dX1_takeLast_70
  · replace h := Eq.mp (if_neg hc) h
    refine lv_iconst (v := (1 : Int32)) X.1 X.2.1 dX1_takeLast_60 (by decide) ?_
    refine lv_goto (tgt := 65) X.1 X.2.1 dX1_takeLast_61 (by decide) ?_
    refine lv_isub X.1 X.2.1 dX1_takeLast_65 ?_
    refine lv_topi (fun lo_pushed_7 e_lo_pushed_7 => ?_)
    replace h := h lo_pushed_7 e_lo_pushed_7
    refine g_put X hP hD hS 0 1 2 (v := .int lo_pushed_7) rfl rfl inX1 tyX1 tyX1_ok nmX1 (by decide) fl_X1_20 rfl rfl rfl rfl (Nat.le_of_ble_eq_true rfl) dX1_takeLast_66 (fun H locs hP hD hS => ?_)
    replace hP : va_P G.1 gCl [cLO hLO lo_kept_3 lo_moves_4 lo_pushed_7 hMA lo_end_1, cI G hMA 500 aMA] H := hP
    replace hD : va_D A [cLO hLO lo_kept_3 lo_moves_4 lo_pushed_7 hMA lo_end_1, cI G hMA 500 aMA] := hD
    refine lv_iload_n X.1 X.2.1 dX1_takeLast_69 rfl (lv_at hl 0 rfl) ?_
    exact g_iret X (lo_kept_3, lo_moves_4, lo_pushed_7, lo_end_1) h hP hD hS dX1_takeLast_70
abbrev rm_LO_wayOf : Room := { frames := 0, cells := 0, slots := 0, locals := 0 }
set_option maxHeartbeats 4000000 in
set_option maxRecDepth 100000 in
theorem c_LO_wayOf (l : Launch) (G : gEnv) (v0 : Int32) (post : Int32 → Prop) (h : LO_wayOf v0 post) (sz : Nat) : Met l yX1_wayOf (Cond.code yX1_wayOf cX1_wayOf 1 (some .int) :: wAll) (rm_LO_wayOf) (gPc G [.int v0] [] sz) (gQi G (fun (r : Int32) (u : Unit) => post r ) (fun (u : Unit) => []) (va_A [] sz)) 0 0 (va_A [] sz) := by
  refine Met.ofW (cc := cX1_wayOf) (maxL := 1) (ret := (some .int)) (by decide) rfl ?_
  intro p e s m args below meth c s₁ B hml hv
  obtain ⟨rfl, hsz, hP, hK, hD0⟩ := hv
  subst hsz
  have X := gX.ofB (ws := []) B hml hK hD0
  have hD := hD0.self (sz := s.heap.size)
  generalize hAe : va_A [] s.heap.size = A at X hD ⊢
  have hS : va_S A s.heap s.heap [] := va_S.rf
  have hl := lv_entry ([.int v0]) (n := 1) (Nat.le_of_ble_eq_true rfl)
  rw [lg_entry_eq]
  generalize (lg_sl ([.int v0]) ++ List.replicate (1 - (lg_sl ([.int v0])).length) Slot.unset).toArray = ls at hl ⊢
  have hl : lv_has ls 1 [(0, .int v0)] := hl
  dsimp only [headSpec]
  unfold LO_wayOf at h
  refine lv_iload_n X.1 X.2.1 dX1_wayOf_0 rfl (lv_at hl 0 rfl) ?_
  refine lv_iconst (v := (3 : Int32)) X.1 X.2.1 dX1_wayOf_1 (by decide) ?_
  refine lv_iand X.1 X.2.1 dX1_wayOf_2 ?_
  exact g_iret X () h hP hD hS dX1_wayOf_3
abbrev rm_LO_letterAt : Room := { frames := 5, cells := 0, slots := 0, locals := 113 }
set_option maxHeartbeats 4000000 in
set_option maxRecDepth 100000 in
theorem c_LO_letterAt (l : Launch) (G : gEnv) (hLO : Nat) (hMA : Nat) (lo_kept : Int32) (lo_moves : Int32) (lo_pushed : Int32) (lo_end : Int32) (aMA : Nat → Int32) (v1 : Int32) (post : Int32 → Prop) (h : LO_letterAt lo_kept lo_end aMA v1 post) (sz : Nat) : Met l yX1_letterAt (Cond.code yX1_letterAt cX1_letterAt 3 (some .int) :: wAll) (rm_LO_letterAt) (gPc G [.ref hLO, .int v1] [cLO hLO lo_kept lo_moves lo_pushed hMA lo_end, cI G hMA 500 aMA] sz) (gQi G (fun (r : Int32) (u : Unit) => post r ) (fun (u : Unit) => [cLO hLO lo_kept lo_moves lo_pushed hMA lo_end, cI G hMA 500 aMA]) (va_A [cLO hLO lo_kept lo_moves lo_pushed hMA lo_end, cI G hMA 500 aMA] sz)) 0 0 (va_A [cLO hLO lo_kept lo_moves lo_pushed hMA lo_end, cI G hMA 500 aMA] sz) := by
  refine Met.ofW (cc := cX1_letterAt) (maxL := 3) (ret := (some .int)) (by decide) rfl ?_
  intro p e s m args below meth c s₁ B hml hv
  obtain ⟨rfl, hsz, hP, hK, hD0⟩ := hv
  subst hsz
  have X := gX.ofB (ws := [cLO hLO lo_kept lo_moves lo_pushed hMA lo_end, cI G hMA 500 aMA]) B hml hK hD0
  have hD := hD0.self (sz := s.heap.size)
  generalize hAe : va_A [cLO hLO lo_kept lo_moves lo_pushed hMA lo_end, cI G hMA 500 aMA] s.heap.size = A at X hD ⊢
  have hS : va_S A s.heap s.heap [] := va_S.rf
  have hl := lv_entry ([.ref hLO, .int v1]) (n := 3) (Nat.le_of_ble_eq_true rfl)
  rw [lg_entry_eq]
  generalize (lg_sl ([.ref hLO, .int v1]) ++ List.replicate (3 - (lg_sl ([.ref hLO, .int v1])).length) Slot.unset).toArray = ls at hl ⊢
  have hl : lv_has ls 3 [(0, .ref hLO), (1, .int v1)] := hl
  dsimp only [headSpec]
  unfold LO_letterAt at h
  refine lv_aload_n X.1 X.2.1 dX1_letterAt_0 rfl (lv_at hl 0 rfl) ?_
  refine g_get X hP 0 1 3 (v := .ref hMA) rfl rfl inX1 (by decide) fl_X1_9 rfl dX1_letterAt_1 ?_
  refine lv_aload_n X.1 X.2.1 dX1_letterAt_4 rfl (lv_at hl 0 rfl) ?_
  refine g_get X hP 0 1 4 (v := .int lo_end) rfl rfl inX1 (by decide) fl_X1_23 rfl dX1_letterAt_5 ?_
  refine lv_sipush (v := (500 : Int32)) X.1 X.2.1 dX1_letterAt_8 (by decide) ?_
  refine lv_iadd X.1 X.2.1 dX1_letterAt_11 ?_
  refine lv_aload_n X.1 X.2.1 dX1_letterAt_12 rfl (lv_at hl 0 rfl) ?_
  refine g_get X hP 0 1 0 (v := .int lo_kept) rfl rfl inX1 (by decide) fl_X1_13 rfl dX1_letterAt_13 ?_
  refine lv_isub X.1 X.2.1 dX1_letterAt_16 ?_
  refine lv_iload_n X.1 X.2.1 dX1_letterAt_17 rfl (lv_at hl 1 rfl) ?_
  refine lv_iadd X.1 X.2.1 dX1_letterAt_18 ?_
  refine lv_sipush (v := (500 : Int32)) X.1 X.2.1 dX1_letterAt_19 (by decide) ?_
  refine lv_irem X.1 X.2.1 dX1_letterAt_22 (by decide) ?_
  obtain ⟨hin, h⟩ := h
  refine va_iald (D := G.1) X.1 X.2.1 X.k.1 hP 1 0 rfl rfl hin dX1_letterAt_23 ?_
  refine lv_topi (fun v2_1 e_v2_1 => ?_)
  replace h := h v2_1 e_v2_1
  refine lv_istore_n (lv' := [(2, .int v2_1), (0, .ref hLO), (1, .int v1)]) X.1 X.2.1 dX1_letterAt_24 rfl hl (by decide) rfl (fun ls hl => ?_)
  refine va_ldcS X.1 X.2.1 X.2.2.2.1 (X.k.2.2.1 0 _ rfl) dX1_letterAt_25 ?_
  refine lv_iload_n X.1 X.2.1 dX1_letterAt_27 rfl (lv_at hl 0 rfl) ?_
  refine va_ldcS X.1 X.2.1 X.2.2.2.1 (X.k.2.2.1 0 _ rfl) dX1_letterAt_28 ?_
  refine g_ci (wr := [cLO hLO lo_kept lo_moves lo_pushed hMA lo_end, cI G hMA 500 aMA]) X [] [0, 1] (g_rVr (As := []) (rest := [.int v2_1, .ref (gA0 G)]) X (c_length l G _) lk_X1_38 rfl rfl ⟨Nat.le_of_ble_eq_true rfl, Nat.le_of_ble_eq_true rfl⟩ hP hD hS [] rfl rfl (vk_recv (A := A) (vk_S.narrow X.k.2.2.2.1.2.2.1 X.new) (i := 0) (by decide) hS) rfl hl.1 rfl (Nat.le_of_ble_eq_true rfl) dX1_letterAt_30 ⟨Nat.le_of_ble_eq_true rfl, Nat.le_of_ble_eq_true rfl⟩) hP hD hS rfl rfl rfl (by decide) (fun r0 u H locs hr hP hD hS => ?_)
  replace hr : r0 = (8 : Int32) := hr
  subst hr
  replace hP := hP.sub (ws' := [cLO hLO lo_kept lo_moves lo_pushed hMA lo_end, cI G hMA 500 aMA]) [0, 1] rfl
  replace hD := hD.sub (ws' := [cLO hLO lo_kept lo_moves lo_pushed hMA lo_end, cI G hMA 500 aMA]) [0, 1] rfl rfl
  refine lv_iconst (v := (1 : Int32)) X.1 X.2.1 dX1_letterAt_33 (by decide) ?_
  refine lv_isub X.1 X.2.1 dX1_letterAt_34 ?_
  refine lv_iand X.1 X.2.1 dX1_letterAt_35 ?_
  refine lv_topi (fun z_2 e_z_2 => ?_)
  replace h := h z_2 e_z_2
  obtain ⟨hin, h⟩ := h
  refine g_ci (wr := [cLO hLO lo_kept lo_moves lo_pushed hMA lo_end, cI G hMA 500 aMA]) X [] [0, 1] (g_rVr (As := [.int z_2]) (rest := []) X (c_charAtZ l G z_2 hin _) lk_X1_44 rfl rfl ⟨Nat.le_of_ble_eq_true rfl, Nat.le_of_ble_eq_true rfl⟩ hP hD hS [] rfl rfl (vk_recv (A := A) (vk_S.narrow X.k.2.2.2.1.2.2.1 X.new) (i := 0) (by decide) hS) rfl hl.1 rfl (Nat.le_of_ble_eq_true rfl) dX1_letterAt_36 ⟨Nat.le_of_ble_eq_true rfl, Nat.le_of_ble_eq_true rfl⟩) hP hD hS rfl rfl rfl (by decide) (fun r0 u H locs hr hP hD hS => ?_)
  replace hr : r0 = jLet z_2.toNatClampNeg := hr
  subst hr
  replace hP := hP.sub (ws' := [cLO hLO lo_kept lo_moves lo_pushed hMA lo_end, cI G hMA 500 aMA]) [0, 1] rfl
  replace hD := hD.sub (ws' := [cLO hLO lo_kept lo_moves lo_pushed hMA lo_end, cI G hMA 500 aMA]) [0, 1] rfl rfl
  exact g_iret X () h hP hD hS dX1_letterAt_39
