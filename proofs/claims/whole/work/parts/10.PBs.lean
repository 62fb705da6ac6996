abbrev rm_PB_cellAt : Room := { frames := 0, cells := 0, slots := 0, locals := 0 }
set_option maxHeartbeats 4000000 in
set_option maxRecDepth 100000 in
theorem c_PB_cellAt (l : Launch) (G : gEnv) (v0 : Int32) (v1 : Int32) (post : Int64 → Prop) (h : PB_cellAt v0 v1 post) (sz : Nat) : Met l yX5_cellAt (Cond.code yX5_cellAt cX5_cellAt 2 (some .long) :: wAll) (rm_PB_cellAt) (gPc G [.int v0, .int v1] [] sz) (gQl G (fun (r : Int64) (u : Unit) => post r ) (fun (u : Unit) => []) (va_A [] sz)) 0 0 (va_A [] sz) := by
  refine Met.ofW (cc := cX5_cellAt) (maxL := 2) (ret := (some .long)) (by decide) rfl ?_
  intro p e s m args below meth c s₁ B hml hv
  obtain ⟨rfl, hsz, hP, hK, hD0⟩ := hv
  subst hsz
  have X := gX.ofB (ws := []) B hml hK hD0
  have hD := hD0.self (sz := s.heap.size)
  generalize hAe : va_A [] s.heap.size = A at X hD ⊢
  have hS : va_S A s.heap s.heap [] := va_S.rf
  have hl := lv_entry ([.int v0, .int v1]) (n := 2) (Nat.le_of_ble_eq_true rfl)
  rw [lg_entry_eq]
  generalize (lg_sl ([.int v0, .int v1]) ++ List.replicate (2 - (lg_sl ([.int v0, .int v1])).length) Slot.unset).toArray = ls at hl ⊢
  have hl : lv_has ls 2 [(0, .int v0), (1, .int v1)] := hl
  dsimp only [headSpec]
  unfold PB_cellAt at h
  refine lv_lconst (v := (1 : Int64)) X.1 X.2.1 dX5_cellAt_0 (by decide) ?_
  refine lv_bipush (v := (8 : Int32)) X.1 X.2.1 dX5_cellAt_1 (by decide) ?_
  refine lv_iload_n X.1 X.2.1 dX5_cellAt_3 rfl (lv_at hl 1 rfl) ?_
  refine lv_imul X.1 X.2.1 dX5_cellAt_4 ?_
  refine lv_iload_n X.1 X.2.1 dX5_cellAt_5 rfl (lv_at hl 0 rfl) ?_
  refine lv_iadd X.1 X.2.1 dX5_cellAt_6 ?_
  refine lv_lshl X.1 X.2.1 dX5_cellAt_7 rfl ?_
  exact g_lret X () h hP hD hS dX5_cellAt_8
abbrev rm_JL_bitCount : Room := { frames := 0, cells := 0, slots := 0, locals := 0 }
set_option maxHeartbeats 4000000 in
set_option maxRecDepth 100000 in
theorem c_JL_bitCount (l : Launch) (G : gEnv) (v0 : Int64) (post : Int32 → Prop) (h : JL_bitCount v0 post) (sz : Nat) : Met l yJ13_bitCount_95d88 (Cond.code yJ13_bitCount_95d88 cJ13_bitCount_95d88 2 (some .int) :: wAll) (rm_JL_bitCount) (gPc G [.long v0] [] sz) (gQi G (fun (r : Int32) (u : Unit) => post r ) (fun (u : Unit) => []) (va_A [] sz)) 0 0 (va_A [] sz) := by
  refine Met.ofW (cc := cJ13_bitCount_95d88) (maxL := 2) (ret := (some .int)) (by decide) rfl ?_
  intro p e s m args below meth c s₁ B hml hv
  obtain ⟨rfl, hsz, hP, hK, hD0⟩ := hv
  subst hsz
  have X := gX.ofB (ws := []) B hml hK hD0
  have hD := hD0.self (sz := s.heap.size)
  generalize hAe : va_A [] s.heap.size = A at X hD ⊢
  have hS : va_S A s.heap s.heap [] := va_S.rf
  have hl := lv_entry ([.long v0]) (n := 2) (Nat.le_of_ble_eq_true rfl)
  rw [lg_entry_eq]
  generalize (lg_sl ([.long v0]) ++ List.replicate (2 - (lg_sl ([.long v0])).length) Slot.unset).toArray = ls at hl ⊢
  have hl : lv_has ls 2 [(0, .long v0)] := hl
  dsimp only [headSpec]
  unfold JL_bitCount at h
  refine lv_lload_n X.1 X.2.1 dJ13_bitCount_95d88_0 rfl (lv_at hl 0 rfl) ?_
  refine lv_lload_n X.1 X.2.1 dJ13_bitCount_95d88_1 rfl (lv_at hl 0 rfl) ?_
  refine lv_iconst (v := (1 : Int32)) X.1 X.2.1 dJ13_bitCount_95d88_2 (by decide) ?_
  refine lv_lushr X.1 X.2.1 dJ13_bitCount_95d88_3 rfl ?_
  refine lv_ldc2 (v := (6148914691236517205 : Int64)) X.1 X.2.1 X.2.2.2.1 (X.2.2.2.2.1 _ cn_J13_314) dJ13_bitCount_95d88_4 ?_
  refine lv_land X.1 X.2.1 dJ13_bitCount_95d88_7 ?_
  refine lv_lsub X.1 X.2.1 dJ13_bitCount_95d88_8 ?_
  refine lv_topl (fun v0_1 e_v0_1 => ?_)
  replace h := h v0_1 e_v0_1
  refine lv_lstore_n (lv' := [(0, .long v0_1)]) X.1 X.2.1 dJ13_bitCount_95d88_9 rfl hl (by decide) rfl (fun ls hl => ?_)
  refine lv_lload_n X.1 X.2.1 dJ13_bitCount_95d88_10 rfl (lv_at hl 0 rfl) ?_
  refine lv_ldc2 (v := (3689348814741910323 : Int64)) X.1 X.2.1 X.2.2.2.1 (X.2.2.2.2.1 _ cn_J13_316) dJ13_bitCount_95d88_11 ?_
  refine lv_land X.1 X.2.1 dJ13_bitCount_95d88_14 ?_
  refine lv_lload_n X.1 X.2.1 dJ13_bitCount_95d88_15 rfl (lv_at hl 0 rfl) ?_
  refine lv_iconst (v := (2 : Int32)) X.1 X.2.1 dJ13_bitCount_95d88_16 (by decide) ?_
  refine lv_lushr X.1 X.2.1 dJ13_bitCount_95d88_17 rfl ?_
  refine lv_ldc2 (v := (3689348814741910323 : Int64)) X.1 X.2.1 X.2.2.2.1 (X.2.2.2.2.1 _ cn_J13_316) dJ13_bitCount_95d88_18 ?_
  refine lv_land X.1 X.2.1 dJ13_bitCount_95d88_21 ?_
  refine lv_ladd X.1 X.2.1 dJ13_bitCount_95d88_22 ?_
  refine lv_topl (fun v0_2 e_v0_2 => ?_)
  replace h := h v0_2 e_v0_2
  refine lv_lstore_n (lv' := [(0, .long v0_2)]) X.1 X.2.1 dJ13_bitCount_95d88_23 rfl hl (by decide) rfl (fun ls hl => ?_)
  refine lv_lload_n X.1 X.2.1 dJ13_bitCount_95d88_24 rfl (lv_at hl 0 rfl) ?_
  refine lv_lload_n X.1 X.2.1 dJ13_bitCount_95d88_25 rfl (lv_at hl 0 rfl) ?_
  refine lv_iconst (v := (4 : Int32)) X.1 X.2.1 dJ13_bitCount_95d88_26 (by decide) ?_
  refine lv_lushr X.1 X.2.1 dJ13_bitCount_95d88_27 rfl ?_
  refine lv_ladd X.1 X.2.1 dJ13_bitCount_95d88_28 ?_
  refine lv_ldc2 (v := (1085102592571150095 : Int64)) X.1 X.2.1 X.2.2.2.1 (X.2.2.2.2.1 _ cn_J13_318) dJ13_bitCount_95d88_29 ?_
  refine lv_land X.1 X.2.1 dJ13_bitCount_95d88_32 ?_
  refine lv_topl (fun v0_3 e_v0_3 => ?_)
  replace h := h v0_3 e_v0_3
  refine lv_lstore_n (lv' := [(0, .long v0_3)]) X.1 X.2.1 dJ13_bitCount_95d88_33 rfl hl (by decide) rfl (fun ls hl => ?_)
  refine lv_lload_n X.1 X.2.1 dJ13_bitCount_95d88_34 rfl (lv_at hl 0 rfl) ?_
  refine lv_lload_n X.1 X.2.1 dJ13_bitCount_95d88_35 rfl (lv_at hl 0 rfl) ?_
  refine lv_bipush (v := (8 : Int32)) X.1 X.2.1 dJ13_bitCount_95d88_36 (by decide) ?_
  refine lv_lushr X.1 X.2.1 dJ13_bitCount_95d88_38 rfl ?_
  refine lv_ladd X.1 X.2.1 dJ13_bitCount_95d88_39 ?_
  refine lv_topl (fun v0_4 e_v0_4 => ?_)
  replace h := h v0_4 e_v0_4
  refine lv_lstore_n (lv' := [(0, .long v0_4)]) X.1 X.2.1 dJ13_bitCount_95d88_40 rfl hl (by decide) rfl (fun ls hl => ?_)
  refine lv_lload_n X.1 X.2.1 dJ13_bitCount_95d88_41 rfl (lv_at hl 0 rfl) ?_
  refine lv_lload_n X.1 X.2.1 dJ13_bitCount_95d88_42 rfl (lv_at hl 0 rfl) ?_
  refine lv_bipush (v := (16 : Int32)) X.1 X.2.1 dJ13_bitCount_95d88_43 (by decide) ?_
  refine lv_lushr X.1 X.2.1 dJ13_bitCount_95d88_45 rfl ?_
  refine lv_ladd X.1 X.2.1 dJ13_bitCount_95d88_46 ?_
  refine lv_topl (fun v0_5 e_v0_5 => ?_)
  replace h := h v0_5 e_v0_5
  refine lv_lstore_n (lv' := [(0, .long v0_5)]) X.1 X.2.1 dJ13_bitCount_95d88_47 rfl hl (by decide) rfl (fun ls hl => ?_)
  refine lv_lload_n X.1 X.2.1 dJ13_bitCount_95d88_48 rfl (lv_at hl 0 rfl) ?_
  refine lv_lload_n X.1 X.2.1 dJ13_bitCount_95d88_49 rfl (lv_at hl 0 rfl) ?_
  refine lv_bipush (v := (32 : Int32)) X.1 X.2.1 dJ13_bitCount_95d88_50 (by decide) ?_
  refine lv_lushr X.1 X.2.1 dJ13_bitCount_95d88_52 rfl ?_
  refine lv_ladd X.1 X.2.1 dJ13_bitCount_95d88_53 ?_
  refine lv_topl (fun v0_6 e_v0_6 => ?_)
  replace h := h v0_6 e_v0_6
  refine lv_lstore_n (lv' := [(0, .long v0_6)]) X.1 X.2.1 dJ13_bitCount_95d88_54 rfl hl (by decide) rfl (fun ls hl => ?_)
  refine lv_lload_n X.1 X.2.1 dJ13_bitCount_95d88_55 rfl (lv_at hl 0 rfl) ?_
  refine lv_l2i (v := v0_6.toInt32) X.1 X.2.1 dJ13_bitCount_95d88_56 rfl ?_
  refine lv_bipush (v := (127 : Int32)) X.1 X.2.1 dJ13_bitCount_95d88_57 (by decide) ?_
  refine lv_iand X.1 X.2.1 dJ13_bitCount_95d88_59 ?_
  exact g_iret X () h hP hD hS dJ13_bitCount_95d88_60
abbrev rm_PB_against : Room := { frames := 0, cells := 0, slots := 0, locals := 0 }
set_option maxHeartbeats 4000000 in
set_option maxRecDepth 100000 in
theorem c_PB_against (l : Launch) (G : gEnv) (v0 : Int32) (post : Int32 → Prop) (h : PB_against v0 post) (sz : Nat) : Met l yX5_against (Cond.code yX5_against cX5_against 1 (some .int) :: wAll) (rm_PB_against) (gPc G [.int v0] [] sz) (gQi G (fun (r : Int32) (u : Unit) => post r ) (fun (u : Unit) => []) (va_A [] sz)) 0 0 (va_A [] sz) := by
  refine Met.ofW (cc := cX5_against) (maxL := 1) (ret := (some .int)) (by decide) rfl ?_
  intro p e s m args below meth c s₁ B hml hv
  obtain ⟨rfl, hsz, hP, hK, hD0⟩ := hv
  subst hsz
  have X := gX.ofB (ws := []) B hml hK hD0
  have hD := hD0.self (sz := s.heap.size)
  generalize hAe : va_A [] s.heap.size = A at X hD ⊢
  have hS : va_S A s.heap s.heap [] := va_S.rf
  have hl := lv_entry ([.int v0]) (n := 1) (Nat.le_of_ble_eq_true rfl)
  rw [lg_entry_eq]
  generalize (lg_sl ([.int v0]) ++ List.replicate (1 - (lg_sl ([.int v0])).length) Slot.unset).toArray = ls at hl ⊢
  have hl : lv_has ls 1 [(0, .int v0)] := hl
  dsimp only [headSpec]
  unfold PB_against at h
  refine lv_iload_n X.1 X.2.1 dX5_against_0 rfl (lv_at hl 0 rfl) ?_
  refine lv_iconst (v := (2 : Int32)) X.1 X.2.1 dX5_against_1 (by decide) ?_
  refine lv_ixor X.1 X.2.1 dX5_against_2 ?_
  exact g_iret X () h hP hD hS dX5_against_3
abbrev rm_PB_shifted : Room := { frames := 0, cells := 0, slots := 0, locals := 0 }
set_option maxHeartbeats 4000000 in
set_option maxRecDepth 100000 in
theorem c_PB_shifted (l : Launch) (G : gEnv) (v0 : Int64) (v2 : Int32) (post : Int64 → Prop) (h : PB_shifted v0 v2 post) (sz : Nat) : Met l yX5_shifted (Cond.code yX5_shifted cX5_shifted 3 (some .long) :: wAll) (rm_PB_shifted) (gPc G [.long v0, .int v2] [] sz) (gQl G (fun (r : Int64) (u : Unit) => post r ) (fun (u : Unit) => []) (va_A [] sz)) 0 0 (va_A [] sz) := by
  refine Met.ofW (cc := cX5_shifted) (maxL := 3) (ret := (some .long)) (by decide) rfl ?_
  intro p e s m args below meth c s₁ B hml hv
  obtain ⟨rfl, hsz, hP, hK, hD0⟩ := hv
  subst hsz
  have X := gX.ofB (ws := []) B hml hK hD0
  have hD := hD0.self (sz := s.heap.size)
  generalize hAe : va_A [] s.heap.size = A at X hD ⊢
  have hS : va_S A s.heap s.heap [] := va_S.rf
  have hl := lv_entry ([.long v0, .int v2]) (n := 3) (Nat.le_of_ble_eq_true rfl)
  rw [lg_entry_eq]
  generalize (lg_sl ([.long v0, .int v2]) ++ List.replicate (3 - (lg_sl ([.long v0, .int v2])).length) Slot.unset).toArray = ls at hl ⊢
  have hl : lv_has ls 3 [(0, .long v0), (2, .int v2)] := hl
  dsimp only [headSpec]
  unfold PB_shifted at h
  refine lv_iload_n X.1 X.2.1 dX5_shifted_0 rfl (lv_at hl 1 rfl) ?_
  by_cases hc0 : v2 = (0 : Int32)
  · replace h := Eq.mp (if_pos hc0) h
    refine lv_tableIn (tgt := 28) X.1 X.2.1 dX5_shifted_1 (by rw [hc0]; decide) (by rw [hc0]; decide) (by rw [hc0] <;> rfl) (by decide) ?_
    refine lv_lload_n X.1 X.2.1 dX5_shifted_28 rfl (lv_at hl 0 rfl) ?_
    refine lv_ldc2 (v := (9187201950435737471 : Int64)) X.1 X.2.1 X.2.2.2.1 (X.2.2.2.2.1 _ cn_X5_231) dX5_shifted_29 ?_
    refine lv_land X.1 X.2.1 dX5_shifted_32 ?_
    refine lv_iconst (v := (1 : Int32)) X.1 X.2.1 dX5_shifted_33 (by decide) ?_
    refine lv_lshl X.1 X.2.1 dX5_shifted_34 rfl ?_
    exact g_lret X () h hP hD hS dX5_shifted_35
  replace h := Eq.mp (if_neg hc0) h
  by_cases hc1 : v2 = (1 : Int32)
  · replace h := Eq.mp (if_pos hc1) h
    refine lv_tableIn (tgt := 36) X.1 X.2.1 dX5_shifted_1 (by rw [hc1]; decide) (by rw [hc1]; decide) (by rw [hc1] <;> rfl) (by decide) ?_
    refine lv_lload_n X.1 X.2.1 dX5_shifted_36 rfl (lv_at hl 0 rfl) ?_
    refine lv_bipush (v := (8 : Int32)) X.1 X.2.1 dX5_shifted_37 (by decide) ?_
    refine lv_lshl X.1 X.2.1 dX5_shifted_39 rfl ?_
    exact g_lret X () h hP hD hS dX5_shifted_40
  replace h := Eq.mp (if_neg hc1) h
  by_cases hc2 : v2 = (2 : Int32)
  · replace h := Eq.mp (if_pos hc2) h
    refine lv_tableIn (tgt := 41) X.1 X.2.1 dX5_shifted_1 (by rw [hc2]; decide) (by rw [hc2]; decide) (by rw [hc2] <;> rfl) (by decide) ?_
    refine lv_lload_n X.1 X.2.1 dX5_shifted_41 rfl (lv_at hl 0 rfl) ?_
    refine lv_ldc2 (v := (-72340172838076674 : Int64)) X.1 X.2.1 X.2.2.2.1 (X.2.2.2.2.1 _ cn_X5_233) dX5_shifted_42 ?_
    refine lv_land X.1 X.2.1 dX5_shifted_45 ?_
    refine lv_iconst (v := (1 : Int32)) X.1 X.2.1 dX5_shifted_46 (by decide) ?_
    refine lv_lushr X.1 X.2.1 dX5_shifted_47 rfl ?_
    exact g_lret X () h hP hD hS dX5_shifted_48
  replace h := Eq.mp (if_neg hc2) h
  refine lv_tableOut (tgt := 49) X.1 X.2.1 dX5_shifted_1 (by have q0 := lv_neT (a := 0) hc0 (by decide); have q1 := lv_neT (a := 1) hc1 (by decide); have q2 := lv_neT (a := 2) hc2 (by decide); omega) (by decide) ?_
  refine lv_lload_n X.1 X.2.1 dX5_shifted_49 rfl (lv_at hl 0 rfl) ?_
  refine lv_bipush (v := (8 : Int32)) X.1 X.2.1 dX5_shifted_50 (by decide) ?_
  refine lv_lushr X.1 X.2.1 dX5_shifted_52 rfl ?_
  exact g_lret X () h hP hD hS dX5_shifted_53
abbrev rm_PB_wayOfLetter : Room := { frames := 0, cells := 0, slots := 0, locals := 0 }
set_option maxHeartbeats 4000000 in
set_option maxRecDepth 100000 in
theorem c_PB_wayOfLetter (l : Launch) (G : gEnv) (v0 : Int32) (post : Int32 → Prop) (h : PB_wayOfLetter v0 post) (sz : Nat) : Met l yX5_wayOfLetter (Cond.code yX5_wayOfLetter cX5_wayOfLetter 1 (some .int) :: wAll) (rm_PB_wayOfLetter) (gPc G [.int v0] [] sz) (gQi G (fun (r : Int32) (u : Unit) => post r ) (fun (u : Unit) => []) (va_A [] sz)) 0 0 (va_A [] sz) := by
  refine Met.ofW (cc := cX5_wayOfLetter) (maxL := 1) (ret := (some .int)) (by decide) rfl ?_
  intro p e s m args below meth c s₁ B hml hv
  obtain ⟨rfl, hsz, hP, hK, hD0⟩ := hv
  subst hsz
  have X := gX.ofB (ws := []) B hml hK hD0
  have hD := hD0.self (sz := s.heap.size)
  generalize hAe : va_A [] s.heap.size = A at X hD ⊢
  have hS : va_S A s.heap s.heap [] := va_S.rf
  have hl := lv_entry ([.int v0]) (n := 1) (Nat.le_of_ble_eq_true rfl)
  rw [lg_entry_eq]
  generalize (lg_sl ([.int v0]) ++ List.replicate (1 - (lg_sl ([.int v0])).length) Slot.unset).toArray = ls at hl ⊢
  have hl : lv_has ls 1 [(0, .int v0)] := hl
  dsimp only [headSpec]
  unfold PB_wayOfLetter at h
  refine lv_iload_n X.1 X.2.1 dX5_wayOfLetter_0 rfl (lv_at hl 0 rfl) ?_
  by_cases hc0 : v0 = (68 : Int32)
  · replace h := Eq.mp (if_pos hc0) h
    refine lv_lookup (tgt := 78) X.1 X.2.1 dX5_wayOfLetter_1 (by decide) (by rw [hc0] <;> rfl) (by decide) ?_
    refine lv_iconst (v := (1 : Int32)) X.1 X.2.1 dX5_wayOfLetter_78 (by decide) ?_
    exact g_iret X () h hP hD hS dX5_wayOfLetter_79
  replace h := Eq.mp (if_neg hc0) h
  by_cases hc1 : v0 = (76 : Int32)
  · replace h := Eq.mp (if_pos hc1) h
    refine lv_lookup (tgt := 80) X.1 X.2.1 dX5_wayOfLetter_1 (by decide) (by rw [hc1] <;> rfl) (by decide) ?_
    refine lv_iconst (v := (2 : Int32)) X.1 X.2.1 dX5_wayOfLetter_80 (by decide) ?_
    exact g_iret X () h hP hD hS dX5_wayOfLetter_81
  replace h := Eq.mp (if_neg hc1) h
  by_cases hc2 : v0 = (82 : Int32)
  · replace h := Eq.mp (if_pos hc2) h
    refine lv_lookup (tgt := 76) X.1 X.2.1 dX5_wayOfLetter_1 (by decide) (by rw [hc2] <;> rfl) (by decide) ?_
    refine lv_iconst (v := (0 : Int32)) X.1 X.2.1 dX5_wayOfLetter_76 (by decide) ?_
    exact g_iret X () h hP hD hS dX5_wayOfLetter_77
  replace h := Eq.mp (if_neg hc2) h
  by_cases hc3 : v0 = (85 : Int32)
  · replace h := Eq.mp (if_pos hc3) h
    refine lv_lookup (tgt := 82) X.1 X.2.1 dX5_wayOfLetter_1 (by decide) (by rw [hc3] <;> rfl) (by decide) ?_
    refine lv_iconst (v := (3 : Int32)) X.1 X.2.1 dX5_wayOfLetter_82 (by decide) ?_
    exact g_iret X () h hP hD hS dX5_wayOfLetter_83
  replace h := Eq.mp (if_neg hc3) h
  by_cases hc4 : v0 = (100 : Int32)
  · replace h := Eq.mp (if_pos hc4) h
    refine lv_lookup (tgt := 78) X.1 X.2.1 dX5_wayOfLetter_1 (by decide) (by rw [hc4] <;> rfl) (by decide) ?_
    refine lv_iconst (v := (1 : Int32)) X.1 X.2.1 dX5_wayOfLetter_78 (by decide) ?_
    exact g_iret X () h hP hD hS dX5_wayOfLetter_79
  replace h := Eq.mp (if_neg hc4) h
  by_cases hc5 : v0 = (108 : Int32)
  · replace h := Eq.mp (if_pos hc5) h
    refine lv_lookup (tgt := 80) X.1 X.2.1 dX5_wayOfLetter_1 (by decide) (by rw [hc5] <;> rfl) (by decide) ?_
    refine lv_iconst (v := (2 : Int32)) X.1 X.2.1 dX5_wayOfLetter_80 (by decide) ?_
    exact g_iret X () h hP hD hS dX5_wayOfLetter_81
  replace h := Eq.mp (if_neg hc5) h
  by_cases hc6 : v0 = (114 : Int32)
  · replace h := Eq.mp (if_pos hc6) h
    refine lv_lookup (tgt := 76) X.1 X.2.1 dX5_wayOfLetter_1 (by decide) (by rw [hc6] <;> rfl) (by decide) ?_
    refine lv_iconst (v := (0 : Int32)) X.1 X.2.1 dX5_wayOfLetter_76 (by decide) ?_
    exact g_iret X () h hP hD hS dX5_wayOfLetter_77
  replace h := Eq.mp (if_neg hc6) h
  by_cases hc7 : v0 = (117 : Int32)
  · replace h := Eq.mp (if_pos hc7) h
    refine lv_lookup (tgt := 82) X.1 X.2.1 dX5_wayOfLetter_1 (by decide) (by rw [hc7] <;> rfl) (by decide) ?_
    refine lv_iconst (v := (3 : Int32)) X.1 X.2.1 dX5_wayOfLetter_82 (by decide) ?_
    exact g_iret X () h hP hD hS dX5_wayOfLetter_83
  replace h := Eq.mp (if_neg hc7) h
  refine lv_lookup (off := 83) (tgt := 84) X.1 X.2.1 dX5_wayOfLetter_1 (by decide) ((lv_osw hc0 (by decide)).trans ((lv_osw hc1 (by decide)).trans ((lv_osw hc2 (by decide)).trans ((lv_osw hc3 (by decide)).trans ((lv_osw hc4 (by decide)).trans ((lv_osw hc5 (by decide)).trans ((lv_osw hc6 (by decide)).trans ((lv_osw hc7 (by decide)).trans rfl)))))))) (by decide) ?_
  refine lv_iconst (v := (-1 : Int32)) X.1 X.2.1 dX5_wayOfLetter_84 (by decide) ?_
  exact g_iret X () h hP hD hS dX5_wayOfLetter_85
abbrev rm_PB_spotOf : Room := { frames := 1, cells := 0, slots := 0, locals := 21 }
set_option maxHeartbeats 4000000 in
set_option maxRecDepth 100000 in
theorem c_PB_spotOf (l : Launch) (G : gEnv) (v0 : Int64) (post : Int32 → Prop) (h : PB_spotOf v0 post) (sz : Nat) : Met l yX5_spotOf (Cond.code yX5_spotOf cX5_spotOf 2 (some .int) :: wAll) (rm_PB_spotOf) (gPc G [.long v0] [] sz) (gQi G (fun (r : Int32) (u : Unit) => post r ) (fun (u : Unit) => []) (va_A [] sz)) 0 0 (va_A [] sz) := by
  refine Met.ofW (cc := cX5_spotOf) (maxL := 2) (ret := (some .int)) (by decide) rfl ?_
  intro p e s m args below meth c s₁ B hml hv
  obtain ⟨rfl, hsz, hP, hK, hD0⟩ := hv
  subst hsz
  have X := gX.ofB (ws := []) B hml hK hD0
  have hD := hD0.self (sz := s.heap.size)
  generalize hAe : va_A [] s.heap.size = A at X hD ⊢
  have hS : va_S A s.heap s.heap [] := va_S.rf
  have hl := lv_entry ([.long v0]) (n := 2) (Nat.le_of_ble_eq_true rfl)
  rw [lg_entry_eq]
  generalize (lg_sl ([.long v0]) ++ List.replicate (2 - (lg_sl ([.long v0])).length) Slot.unset).toArray = ls at hl ⊢
  have hl : lv_has ls 2 [(0, .long v0)] := hl
  dsimp only [headSpec]
  unfold PB_spotOf at h
  refine lv_lload_n X.1 X.2.1 dX5_spotOf_0 rfl (lv_at hl 0 rfl) ?_
  refine lv_lload_n X.1 X.2.1 dX5_spotOf_1 rfl (lv_at hl 0 rfl) ?_
  refine lv_lneg X.1 X.2.1 dX5_spotOf_2 ?_
  refine lv_land X.1 X.2.1 dX5_spotOf_3 ?_
  refine lv_lconst (v := (1 : Int64)) X.1 X.2.1 dX5_spotOf_4 (by decide) ?_
  refine lv_lsub X.1 X.2.1 dX5_spotOf_5 ?_
  refine g_ci (wr := []) X [] [] (g_rS (As := [.long ((v0 &&& (-v0)) - (1 : Int64))]) (rest := []) X (c_JL_bitCount l G ((v0 &&& (-v0)) - (1 : Int64)) _ h _) lk_X5_76 rfl rfl ⟨Nat.le_of_ble_eq_true rfl, Nat.le_of_ble_eq_true rfl⟩ hP hD hS [] rfl rfl rfl hl.1 rfl (Nat.le_of_ble_eq_true rfl) dX5_spotOf_6 ⟨Nat.le_of_ble_eq_true rfl, Nat.le_of_ble_eq_true rfl⟩) hP hD hS rfl rfl rfl (by decide) (fun r_1 u H locs h hP hD hS => ?_)
  try dsimp only at h
  replace hP := hP.sub (ws' := []) [] rfl
  replace hD := hD.sub (ws' := []) [] rfl rfl
  refine lv_bipush (v := (63 : Int32)) X.1 X.2.1 dX5_spotOf_9 (by decide) ?_
  refine lv_iand X.1 X.2.1 dX5_spotOf_11 ?_
  exact g_iret X () h hP hD hS dX5_spotOf_12
abbrev rm_PB_has : Room := { frames := 0, cells := 0, slots := 0, locals := 0 }
set_option maxHeartbeats 4000000 in
set_option maxRecDepth 100000 in
theorem c_PB_has (l : Launch) (G : gEnv) (v0 : Int64) (v2 : Int32) (post : Int32 → Prop) (h : PB_has v0 v2 post) (sz : Nat) : Met l yX5_has (Cond.code yX5_has cX5_has 3 (some .boolean) :: wAll) (rm_PB_has) (gPc G [.long v0, .int v2] [] sz) (gQi G (fun (r : Int32) (u : Unit) => post r ) (fun (u : Unit) => []) (va_A [] sz)) 0 0 (va_A [] sz) := by
  refine Met.ofW (cc := cX5_has) (maxL := 3) (ret := (some .boolean)) (by decide) rfl ?_
  intro p e s m args below meth c s₁ B hml hv
  obtain ⟨rfl, hsz, hP, hK, hD0⟩ := hv
  subst hsz
  have X := gX.ofB (ws := []) B hml hK hD0
  have hD := hD0.self (sz := s.heap.size)
  generalize hAe : va_A [] s.heap.size = A at X hD ⊢
  have hS : va_S A s.heap s.heap [] := va_S.rf
  have hl := lv_entry ([.long v0, .int v2]) (n := 3) (Nat.le_of_ble_eq_true rfl)
  rw [lg_entry_eq]
  generalize (lg_sl ([.long v0, .int v2]) ++ List.replicate (3 - (lg_sl ([.long v0, .int v2])).length) Slot.unset).toArray = ls at hl ⊢
  have hl : lv_has ls 3 [(0, .long v0), (2, .int v2)] := hl
  dsimp only [headSpec]
  unfold PB_has at h
  refine lv_lload_n X.1 X.2.1 dX5_has_0 rfl (lv_at hl 0 rfl) ?_
  refine lv_iload_n X.1 X.2.1 dX5_has_1 rfl (lv_at hl 1 rfl) ?_
  refine lv_lushr X.1 X.2.1 dX5_has_2 rfl ?_
  refine lv_lconst (v := (1 : Int64)) X.1 X.2.1 dX5_has_3 (by decide) ?_
  refine lv_land X.1 X.2.1 dX5_has_4 ?_
  refine lv_lconst (v := (0 : Int64)) X.1 X.2.1 dX5_has_5 (by decide) ?_
  refine g_lcmp_eq (tgt := 14) X dX5_has_6 dX5_has_7 (by decide) (fun hc => ?_) (fun hc => ?_)
  · replace h := Eq.mp (if_pos hc) h
    refine lv_iconst (v := (0 : Int32)) X.1 X.2.1 dX5_has_14 (by decide) ?_
    exact g_zret X (by decide) () h hP hD hS dX5_has_15
  · replace h := Eq.mp (if_neg hc) h
    refine lv_iconst (v := (1 : Int32)) X.1 X.2.1 dX5_has_10 (by decide) ?_
    refine lv_goto (tgt := 15) X.1 X.2.1 dX5_has_11 (by decide) ?_
    exact g_zret X (by decide) () h hP hD hS dX5_has_15
abbrev rm_JA_fill : Room := { frames := 0, cells := 0, slots := 0, locals := 0 }
set_option maxHeartbeats 4000000 in
set_option maxRecDepth 100000 in
theorem s_JA_fill_5 {p : Program} {l : Launch} {e : Env} {s : State} {m : MethodId} {args : Array Value} {below : List Frame} {meth : Method} {c : Code} {G : gEnv} {A : Nat → Prop} {hFIL : Nat} {fil_n : Nat} {post : (Nat → Int32) → Prop} (X : gX p m meth c cJ7_fill_53178 4 RJ7 none s args G A)  : ∀ (n : Nat) (aFIL : (Nat → Int32)) (v1 : Int32) (v2 : Int32) (v3 : Int32) (H : Heap) (locs : List Loc) (ls : Array Slot), JA_fill_5 fil_n post n aFIL v1 v2 v3 → va_P G.1 gCl [cI G hFIL fil_n aFIL] H → va_D A [cI G hFIL fil_n aFIL] → va_S A s.heap H locs → lv_has ls 4 [(0, .ref hFIL), (1, .int v1), (2, .int v2), (3, .int v3)] → W p l e rm_JA_fill s m args below meth c H locs 0 0 (MQ below (gQv G (fun (u : (Nat → Int32)) => post u) (fun (u : (Nat → Int32)) => [cI G hFIL fil_n u]) A) args s 0 0 A) (F0 m 5 ls []) := by
  intro n
  induction n with
  | zero => intro aFIL v1 v2 v3 H locs ls h _ _ _ _; exact h.elim
  | succ n ih =>
    intro aFIL v1 v2 v3 H locs ls h hP hD hS hl
    unfold JA_fill_5 at h
    refine lv_iload_n X.1 X.2.1 dJ7_fill_53178_5 rfl (lv_at hl 2 rfl) ?_
    refine lv_iload_n X.1 X.2.1 dJ7_fill_53178_6 rfl (lv_at hl 3 rfl) ?_
    refine lv_icmp_ge (tgt := 20) X.1 X.2.1 dJ7_fill_53178_7 (by decide) (fun hc => ?_) (fun hc => ?_)
    · replace h := Eq.mp (if_pos hc) h
      exact g_vret X aFIL h hP hD hS dJ7_fill_53178_20
    · replace h := Eq.mp (if_neg hc) h
      refine lv_aload_n X.1 X.2.1 dJ7_fill_53178_10 rfl (lv_at hl 0 rfl) ?_
      refine lv_iload_n X.1 X.2.1 dJ7_fill_53178_11 rfl (lv_at hl 2 rfl) ?_
      refine lv_iload_n X.1 X.2.1 dJ7_fill_53178_12 rfl (lv_at hl 1 rfl) ?_
      obtain ⟨hin, h⟩ := h
      refine g_ist X hP hD hS 0 rfl hin dJ7_fill_53178_13 (fun aFIL_1 e_aFIL_1 H locs hP hD hS => ?_)
      replace h := h aFIL_1 e_aFIL_1
      replace hP : va_P G.1 gCl [cI G hFIL fil_n aFIL_1] H := hP
      replace hD : va_D A [cI G hFIL fil_n aFIL_1] := hD
      refine lv_iinc (v := (v2 + (1 : Int32))) (lv' := [(2, .int (v2 + (1 : Int32))), (0, .ref hFIL), (1, .int v1), (3, .int v3)]) X.1 X.2.1 dJ7_fill_53178_14 hl (k := 2) rfl rfl (by decide) rfl (fun ls hl => ?_)
      refine lv_goto (tgt := 5) X.1 X.2.1 dJ7_fill_53178_17 (by decide) ?_
      exact ih aFIL_1 v1 (v2 + (1 : Int32)) v3 _ _ _ h hP hD hS (lv_sub hl [1, 2, 0, 3] rfl)
set_option maxHeartbeats 4000000 in
set_option maxRecDepth 100000 in
theorem c_JA_fill (l : Launch) (G : gEnv) (hFIL : Nat) (fil_n : Nat) (aFIL : Nat → Int32) (v1 : Int32) (post : (Nat → Int32) → Prop) (h : JA_fill fil_n aFIL v1 post) (sz : Nat) : Met l yJ7_fill_53178 (Cond.code yJ7_fill_53178 cJ7_fill_53178 4 none :: wAll) (rm_JA_fill) (gPc G [.ref hFIL, .int v1] [cI G hFIL fil_n aFIL] sz) (gQv G (fun (u : (Nat → Int32)) => post u) (fun (u : (Nat → Int32)) => [cI G hFIL fil_n u]) (va_A [cI G hFIL fil_n aFIL] sz)) 0 0 (va_A [cI G hFIL fil_n aFIL] sz) := by
  refine Met.ofW (cc := cJ7_fill_53178) (maxL := 4) (ret := none) (by decide) rfl ?_
  intro p e s m args below meth c s₁ B hml hv
  obtain ⟨rfl, hsz, hP, hK, hD0⟩ := hv
  subst hsz
  have X := gX.ofB (ws := [cI G hFIL fil_n aFIL]) B hml hK hD0
  have hD := hD0.self (sz := s.heap.size)
  generalize hAe : va_A [cI G hFIL fil_n aFIL] s.heap.size = A at X hD ⊢
  have hS : va_S A s.heap s.heap [] := va_S.rf
  have hl := lv_entry ([.ref hFIL, .int v1]) (n := 4) (Nat.le_of_ble_eq_true rfl)
  rw [lg_entry_eq]
  generalize (lg_sl ([.ref hFIL, .int v1]) ++ List.replicate (4 - (lg_sl ([.ref hFIL, .int v1])).length) Slot.unset).toArray = ls at hl ⊢
  have hl : lv_has ls 4 [(0, .ref hFIL), (1, .int v1)] := hl
  dsimp only [headSpec]
  unfold JA_fill at h
  refine lv_iconst (v := (0 : Int32)) X.1 X.2.1 dJ7_fill_53178_0 (by decide) ?_
  refine lv_istore_n (lv' := [(2, .int (0 : Int32)), (0, .ref hFIL), (1, .int v1)]) X.1 X.2.1 dJ7_fill_53178_1 rfl hl (by decide) rfl (fun ls hl => ?_)
  refine lv_aload_n X.1 X.2.1 dJ7_fill_53178_2 rfl (lv_at hl 1 rfl) ?_
  refine va_alen (D := G.1) (v := (nI fil_n)) X.1 X.2.1 X.k.1 hP 0 0 rfl rfl rfl dJ7_fill_53178_3 ?_
  refine lv_topi (fun v3_1 e_v3_1 => ?_)
  replace h := h v3_1 e_v3_1
  refine lv_istore_n (lv' := [(3, .int v3_1), (2, .int (0 : Int32)), (0, .ref hFIL), (1, .int v1)]) X.1 X.2.1 dJ7_fill_53178_4 rfl hl (by decide) rfl (fun ls hl => ?_)
  obtain ⟨n', h⟩ := h
  exact s_JA_fill_5 X  n' aFIL v1 (0 : Int32) v3_1 _ _ _ h hP hD hS (lv_sub hl [2, 3, 1, 0] rfl)
theorem JA_fill_loop {n : Nat} (hn : n < 2 ^ 31) {v : Int32} {f : Nat → Int32} {post : (Nat → Int32) → Prop} (h : post (aFill n v f)) : ∀ (k i : Nat) (g : Nat → Int32), i ≤ n → n - i < k → (∀ j, g j = if j < i then v else f j) → JA_fill_5 n post k g v (nI i) (nI n) := by
  intro k
  induction k with
  | zero => intro i g _ h2; exact absurd h2 (Nat.not_lt_zero _)
  | succ k ih =>
    intro i g hi hk hg
    unfold JA_fill_5
    by_cases q : n ≤ i
    · rw [if_pos (nI_le q (by omega))]
      have e : g = aFill n v f := by
        funext j
        rw [hg j, show i = n by omega]
        rfl
      rw [e]
      exact h
    · rw [if_neg (nI_ge (by omega) hn)]
      refine ⟨vp_in_nI (by omega) hn, fun g1 e1 => ?_⟩
      rw [nI_1]
      refine ih (i + 1) g1 (by omega) (by omega) (fun j => ?_)
      rw [e1, nI_clamp (by omega)]
      unfold upd
      by_cases hj : j = i
      · rw [if_pos hj, if_pos (by omega)]
      · rw [if_neg hj, hg j]
        by_cases h3 : j < i
        · rw [if_pos h3, if_pos (by omega)]
        · rw [if_neg h3, if_neg (by omega)]
theorem JA_fill_spec {n : Nat} (hn : n < 2 ^ 31) {v : Int32} {f : Nat → Int32} {post : (Nat → Int32) → Prop} (h : post (aFill n v f)) : JA_fill n f v post := by
  intro v3 e3
  rw [e3]
  exact ⟨n + 1, JA_fill_loop hn h (n + 1) 0 f (Nat.zero_le _) (by omega) (fun j => by rw [if_neg (Nat.not_lt_zero _)])⟩
theorem c_fill (l : Launch) (G : gEnv) (h n : Nat) (f : Nat → Int32) (v : Int32) (hn : n < 2 ^ 31) (sz : Nat) : Met l yJ7_fill_53178 (Cond.code yJ7_fill_53178 cJ7_fill_53178 4 none :: wAll) rm_JA_fill (gPc G [.ref h, .int v] [cI G h n f] sz) (gQv G (fun u : Nat → Int32 => u = aFill n v f) (fun u => [cI G h n u]) (va_A [cI G h n f] sz)) 0 0 (va_A [cI G h n f] sz) :=
  c_JA_fill l G h n f v (fun u => u = aFill n v f) (JA_fill_spec hn rfl) sz
