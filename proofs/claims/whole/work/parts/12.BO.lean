abbrev rm_BO_rectangle : Room := { frames := 1, cells := 0, slots := 0, locals := 21 }
set_option maxHeartbeats 4000000 in
set_option maxRecDepth 100000 in
theorem s_BO_rectangle_14 {p : Program} {l : Launch} {e : Env} {s : State} {m : MethodId} {args : Array Value} {below : List Frame} {meth : Method} {c : Code} {G : gEnv} {A : Nat → Prop} {k5 : Int32 → Int32 → Int64 → Int32 → Prop} {post : Int64 → Prop} (X : gX p m meth c cX0_rectangle 6 RX0 (some .long) s args G A) (hk5 : ∀ (v0' : Int32) (v1' : Int32) (v2' : Int64) (v4' : Int32) (H : Heap) (locs : List Loc) (ls : Array Slot), k5 v0' v1' v2' v4' → va_P G.1 gCl [] H → va_D A [] → va_S A s.heap H locs → lv_has ls 6 [(0, .int v0'), (1, .int v1'), (2, .long v2'), (4, .int v4')] → W p l e rm_BO_rectangle s m args below meth c H locs 0 0 (MQ below (gQl G (fun (r : Int64) (u : Unit) => post r ) (fun (u : Unit) => []) A) args s 0 0 A) (F0 m 5 ls [])) : ∀ (n : Nat) (v0 : Int32) (v1 : Int32) (v2 : Int64) (v4 : Int32) (v5 : Int32) (H : Heap) (locs : List Loc) (ls : Array Slot), BO_rectangle_14 k5 post n v0 v1 v2 v4 v5 → va_P G.1 gCl [] H → va_D A [] → va_S A s.heap H locs → lv_has ls 6 [(0, .int v0), (1, .int v1), (2, .long v2), (4, .int v4), (5, .int v5)] → W p l e rm_BO_rectangle s m args below meth c H locs 0 0 (MQ below (gQl G (fun (r : Int64) (u : Unit) => post r ) (fun (u : Unit) => []) A) args s 0 0 A) (F0 m 14 ls []) := by
  intro n
  induction n with
  | zero => intro v0 v1 v2 v4 v5 H locs ls h _ _ _ _; exact h.elim
  | succ n ih =>
    intro v0 v1 v2 v4 v5 H locs ls h hP hD hS hl
    unfold BO_rectangle_14 at h
    refine lv_iload X.1 X.2.1 dX0_rectangle_14 (lv_at hl 4 rfl) ?_
    refine lv_iload_n X.1 X.2.1 dX0_rectangle_16 rfl (lv_at hl 0 rfl) ?_
    refine lv_icmp_ge (tgt := 36) X.1 X.2.1 dX0_rectangle_17 (by decide) (fun hc => ?_) (fun hc => ?_)
    · replace h := Eq.mp (if_pos hc) h
      refine lv_iinc (v := (v4 + (1 : Int32))) (lv' := [(4, .int (v4 + (1 : Int32))), (0, .int v0), (1, .int v1), (2, .long v2), (5, .int v5)]) X.1 X.2.1 dX0_rectangle_36 hl (k := 3) rfl rfl (by decide) rfl (fun ls hl => ?_)
      refine lv_goto (tgt := 5) X.1 X.2.1 dX0_rectangle_39 (by decide) ?_
      exact hk5 v0 v1 v2 (v4 + (1 : Int32)) _ _ _ h hP hD hS (lv_sub hl [1, 2, 3, 0] rfl)
    · replace h := Eq.mp (if_neg hc) h
      refine lv_lload_n X.1 X.2.1 dX0_rectangle_20 rfl (lv_at hl 2 rfl) ?_
      refine lv_iload X.1 X.2.1 dX0_rectangle_21 (lv_at hl 4 rfl) ?_
      refine lv_iload X.1 X.2.1 dX0_rectangle_23 (lv_at hl 3 rfl) ?_
      refine g_cl (wr := []) X [] [] (g_rN (As := [.int v5, .int v4]) (rest := [.long v2]) X (c_PB_cellAt l G v5 v4 _ h _) lk_X0_86 rfl rfl ⟨Nat.le_of_ble_eq_true rfl, Nat.le_of_ble_eq_true rfl⟩ hP hD hS [] rfl rfl rfl hl.1 rfl (Nat.le_of_ble_eq_true rfl) dX0_rectangle_25 ⟨Nat.le_of_ble_eq_true rfl, Nat.le_of_ble_eq_true rfl⟩) hP hD hS rfl rfl rfl (by decide) (fun r_1 u H locs h hP hD hS => ?_)
      try dsimp only at h
      replace hP := hP.sub (ws' := []) [] rfl
      replace hD := hD.sub (ws' := []) [] rfl rfl
      refine lv_lor X.1 X.2.1 dX0_rectangle_28 ?_
      refine lv_topl (fun v2_2 e_v2_2 => ?_)
      replace h := h v2_2 e_v2_2
      refine lv_lstore_n (lv' := [(2, .long v2_2), (0, .int v0), (1, .int v1), (4, .int v4), (5, .int v5)]) X.1 X.2.1 dX0_rectangle_29 rfl hl (by decide) rfl (fun ls hl => ?_)
      refine lv_iinc (v := (v5 + (1 : Int32))) (lv' := [(5, .int (v5 + (1 : Int32))), (2, .long v2_2), (0, .int v0), (1, .int v1), (4, .int v4)]) X.1 X.2.1 dX0_rectangle_30 hl (k := 4) rfl rfl (by decide) rfl (fun ls hl => ?_)
      refine lv_goto (tgt := 14) X.1 X.2.1 dX0_rectangle_33 (by decide) ?_
      exact ih v0 v1 v2_2 v4 (v5 + (1 : Int32)) _ _ _ h hP hD hS (lv_sub hl [2, 3, 1, 4, 0] rfl)
set_option maxHeartbeats 4000000 in
set_option maxRecDepth 100000 in
theorem s_BO_rectangle_5 {p : Program} {l : Launch} {e : Env} {s : State} {m : MethodId} {args : Array Value} {below : List Frame} {meth : Method} {c : Code} {G : gEnv} {A : Nat → Prop} {post : Int64 → Prop} (X : gX p m meth c cX0_rectangle 6 RX0 (some .long) s args G A)  : ∀ (n : Nat) (v0 : Int32) (v1 : Int32) (v2 : Int64) (v4 : Int32) (H : Heap) (locs : List Loc) (ls : Array Slot), BO_rectangle_5 post n v0 v1 v2 v4 → va_P G.1 gCl [] H → va_D A [] → va_S A s.heap H locs → lv_has ls 6 [(0, .int v0), (1, .int v1), (2, .long v2), (4, .int v4)] → W p l e rm_BO_rectangle s m args below meth c H locs 0 0 (MQ below (gQl G (fun (r : Int64) (u : Unit) => post r ) (fun (u : Unit) => []) A) args s 0 0 A) (F0 m 5 ls []) := by
  intro n
  induction n with
  | zero => intro v0 v1 v2 v4 H locs ls h _ _ _ _; exact h.elim
  | succ n ih =>
    intro v0 v1 v2 v4 H locs ls h hP hD hS hl
    unfold BO_rectangle_5 at h
    refine lv_iload X.1 X.2.1 dX0_rectangle_5 (lv_at hl 3 rfl) ?_
    refine lv_iload_n X.1 X.2.1 dX0_rectangle_7 rfl (lv_at hl 1 rfl) ?_
    refine lv_icmp_ge (tgt := 42) X.1 X.2.1 dX0_rectangle_8 (by decide) (fun hc => ?_) (fun hc => ?_)
    · replace h := Eq.mp (if_pos hc) h
      refine lv_lload_n X.1 X.2.1 dX0_rectangle_42 rfl (lv_at hl 2 rfl) ?_
      exact g_lret X () h hP hD hS dX0_rectangle_43
    · replace h := Eq.mp (if_neg hc) h
      refine lv_iconst (v := (0 : Int32)) X.1 X.2.1 dX0_rectangle_11 (by decide) ?_
      refine lv_istore (lv' := [(5, .int (0 : Int32)), (0, .int v0), (1, .int v1), (2, .long v2), (4, .int v4)]) X.1 X.2.1 dX0_rectangle_12 hl (by decide) rfl (fun ls hl => ?_)
      obtain ⟨n', h⟩ := h
      exact s_BO_rectangle_14 X (fun v0' v1' v2' v4' H' locs' ls' h' hP' hD' hS' hl' => ih v0' v1' v2' v4' H' locs' ls' h' hP' hD' hS' hl') n' v0 v1 v2 v4 (0 : Int32) _ _ _ h hP hD hS (lv_sub hl [1, 2, 3, 4, 0] rfl)
set_option maxHeartbeats 4000000 in
set_option maxRecDepth 100000 in
theorem c_BO_rectangle (l : Launch) (G : gEnv) (v0 : Int32) (v1 : Int32) (post : Int64 → Prop) (h : BO_rectangle v0 v1 post) (sz : Nat) : Met l yX0_rectangle (Cond.code yX0_rectangle cX0_rectangle 6 (some .long) :: wAll) (rm_BO_rectangle) (gPc G [.int v0, .int v1] [] sz) (gQl G (fun (r : Int64) (u : Unit) => post r ) (fun (u : Unit) => []) (va_A [] sz)) 0 0 (va_A [] sz) := by
  refine Met.ofW (cc := cX0_rectangle) (maxL := 6) (ret := (some .long)) (by decide) rfl ?_
  intro p e s m args below meth c s₁ B hml hv
  obtain ⟨rfl, hsz, hP, hK, hD0⟩ := hv
  subst hsz
  have X := gX.ofB (ws := []) B hml hK hD0
  have hD := hD0.self (sz := s.heap.size)
  generalize hAe : va_A [] s.heap.size = A at X hD ⊢
  have hS : va_S A s.heap s.heap [] := va_S.rf
  have hl := lv_entry ([.int v0, .int v1]) (n := 6) (Nat.le_of_ble_eq_true rfl)
  rw [lg_entry_eq]
  generalize (lg_sl ([.int v0, .int v1]) ++ List.replicate (6 - (lg_sl ([.int v0, .int v1])).length) Slot.unset).toArray = ls at hl ⊢
  have hl : lv_has ls 6 [(0, .int v0), (1, .int v1)] := hl
  dsimp only [headSpec]
  unfold BO_rectangle at h
  refine lv_lconst (v := (0 : Int64)) X.1 X.2.1 dX0_rectangle_0 (by decide) ?_
  refine lv_lstore_n (lv' := [(2, .long (0 : Int64)), (0, .int v0), (1, .int v1)]) X.1 X.2.1 dX0_rectangle_1 rfl hl (by decide) rfl (fun ls hl => ?_)
  refine lv_iconst (v := (0 : Int32)) X.1 X.2.1 dX0_rectangle_2 (by decide) ?_
  refine lv_istore (lv' := [(4, .int (0 : Int32)), (2, .long (0 : Int64)), (0, .int v0), (1, .int v1)]) X.1 X.2.1 dX0_rectangle_3 hl (by decide) rfl (fun ls hl => ?_)
  obtain ⟨n', h⟩ := h
  exact s_BO_rectangle_5 X  n' v0 v1 (0 : Int64) (0 : Int32) _ _ _ h hP hD hS (lv_sub hl [2, 3, 1, 0] rfl)
abbrev rm_BO_liveCells : Room := { frames := 1, cells := 0, slots := 0, locals := 22 }
set_option maxHeartbeats 4000000 in
set_option maxRecDepth 100000 in
theorem s_BO_liveCells_19 {p : Program} {l : Launch} {e : Env} {s : State} {m : MethodId} {args : Array Value} {below : List Frame} {meth : Method} {c : Code} {G : gEnv} {A : Nat → Prop} {hBO : Nat} {hBS : Nat} {bo_width : Int32} {bo_height : Int32} {bo_live : Int64} {bo_boxes : Int64} {bo_person : Int64} {bo_liveBesideInRow : Int64} {bo_liveBesideInColumn : Int64} {bo_floor : Int64} {bo_goals : Int64} {k7 : Int64 → Int32 → Prop} {post : Int64 → Prop} (X : gX p m meth c cX0_liveCells 7 RX0 (some .long) s args G A) (hk7 : ∀ (v1' : Int64) (v3' : Int32) (H : Heap) (locs : List Loc) (ls : Array Slot), k7 v1' v3' → va_P G.1 gCl [cBO hBO bo_width bo_height bo_floor bo_goals bo_live bo_boxes bo_person hBS bo_liveBesideInRow bo_liveBesideInColumn] H → va_D A [cBO hBO bo_width bo_height bo_floor bo_goals bo_live bo_boxes bo_person hBS bo_liveBesideInRow bo_liveBesideInColumn] → va_S A s.heap H locs → lv_has ls 7 [(0, .ref hBO), (1, .long v1'), (3, .int v3')] → W p l e rm_BO_liveCells s m args below meth c H locs 0 0 (MQ below (gQl G (fun (r : Int64) (u : Unit) => post r ) (fun (u : Unit) => [cBO hBO bo_width bo_height bo_floor bo_goals bo_live bo_boxes bo_person hBS bo_liveBesideInRow bo_liveBesideInColumn]) A) args s 0 0 A) (F0 m 7 ls [])) : ∀ (n : Nat) (v1 : Int64) (v3 : Int32) (v4 : Int64) (v6 : Int32) (H : Heap) (locs : List Loc) (ls : Array Slot), BO_liveCells_19 bo_floor bo_goals k7 post n v1 v3 v4 v6 → va_P G.1 gCl [cBO hBO bo_width bo_height bo_floor bo_goals bo_live bo_boxes bo_person hBS bo_liveBesideInRow bo_liveBesideInColumn] H → va_D A [cBO hBO bo_width bo_height bo_floor bo_goals bo_live bo_boxes bo_person hBS bo_liveBesideInRow bo_liveBesideInColumn] → va_S A s.heap H locs → lv_has ls 7 [(0, .ref hBO), (1, .long v1), (3, .int v3), (4, .long v4), (6, .int v6)] → W p l e rm_BO_liveCells s m args below meth c H locs 0 0 (MQ below (gQl G (fun (r : Int64) (u : Unit) => post r ) (fun (u : Unit) => [cBO hBO bo_width bo_height bo_floor bo_goals bo_live bo_boxes bo_person hBS bo_liveBesideInRow bo_liveBesideInColumn]) A) args s 0 0 A) (F0 m 19 ls []) := by
  intro n
  induction n with
  | zero => intro v1 v3 v4 v6 H locs ls h _ _ _ _; exact h.elim
  | succ n ih =>
    intro v1 v3 v4 v6 H locs ls h hP hD hS hl
    unfold BO_liveCells_19 at h
    refine lv_iload X.1 X.2.1 dX0_liveCells_19 (lv_at hl 4 rfl) ?_
    refine lv_iconst (v := (4 : Int32)) X.1 X.2.1 dX0_liveCells_21 (by decide) ?_
    refine lv_icmp_ge (tgt := 61) X.1 X.2.1 dX0_liveCells_22 (by decide) (fun hc => ?_) (fun hc => ?_)
    · replace h := Eq.mp (if_pos hc) h
      refine lv_lload X.1 X.2.1 dX0_liveCells_61 (lv_at hl 3 rfl) ?_
      refine lv_lload_n X.1 X.2.1 dX0_liveCells_63 rfl (lv_at hl 1 rfl) ?_
      refine g_lcmp_ne (tgt := 71) X dX0_liveCells_64 dX0_liveCells_65 (by decide) (fun hc => ?_) (fun hc => ?_)
      · replace h := Eq.mp (if_neg hc) h
        refine lv_lload X.1 X.2.1 dX0_liveCells_71 (lv_at hl 3 rfl) ?_
        refine lv_lstore_n (lv' := [(1, .long v4), (0, .ref hBO), (3, .int v3), (4, .long v4), (6, .int v6)]) X.1 X.2.1 dX0_liveCells_73 rfl hl (by decide) rfl (fun ls hl => ?_)
        refine lv_iinc (v := (v3 + (1 : Int32))) (lv' := [(3, .int (v3 + (1 : Int32))), (1, .long v4), (0, .ref hBO), (4, .long v4), (6, .int v6)]) X.1 X.2.1 dX0_liveCells_74 hl (k := 2) rfl rfl (by decide) rfl (fun ls hl => ?_)
        refine lv_goto (tgt := 7) X.1 X.2.1 dX0_liveCells_77 (by decide) ?_
        exact hk7 v4 (v3 + (1 : Int32)) _ _ _ h hP hD hS (lv_sub hl [2, 1, 0] rfl)
      · replace h := Eq.mp (if_pos hc) h
        refine lv_goto (tgt := 80) X.1 X.2.1 dX0_liveCells_68 (by decide) ?_
        refine lv_lload_n X.1 X.2.1 dX0_liveCells_80 rfl (lv_at hl 1 rfl) ?_
        exact g_lret X () h hP hD hS dX0_liveCells_81
    · replace h := Eq.mp (if_neg hc) h
      refine lv_lload X.1 X.2.1 dX0_liveCells_25 (lv_at hl 3 rfl) ?_
      refine lv_aload_n X.1 X.2.1 dX0_liveCells_27 rfl (lv_at hl 0 rfl) ?_
      refine g_get X hP 0 0 2 (v := .long bo_floor) rfl rfl inX0 (by decide) fl_X0_36 rfl dX0_liveCells_28 ?_
      refine lv_lload X.1 X.2.1 dX0_liveCells_31 (lv_at hl 3 rfl) ?_
      refine lv_iload X.1 X.2.1 dX0_liveCells_33 (lv_at hl 4 rfl) ?_
      refine g_ci (wr := [cBO hBO bo_width bo_height bo_floor bo_goals bo_live bo_boxes bo_person hBS bo_liveBesideInRow bo_liveBesideInColumn]) X [] [0] (g_rN (As := [.int v6]) (rest := [.long v4, .long bo_floor, .long v4]) X (c_PB_against l G v6 _ h _) lk_X0_72 rfl rfl ⟨Nat.le_of_ble_eq_true rfl, Nat.le_of_ble_eq_true rfl⟩ hP hD hS [] rfl rfl rfl hl.1 rfl (Nat.le_of_ble_eq_true rfl) dX0_liveCells_35 ⟨Nat.le_of_ble_eq_true rfl, Nat.le_of_ble_eq_true rfl⟩) hP hD hS rfl rfl rfl (by decide) (fun r_1 u H locs h hP hD hS => ?_)
      try dsimp only at h
      replace hP := hP.sub (ws' := [cBO hBO bo_width bo_height bo_floor bo_goals bo_live bo_boxes bo_person hBS bo_liveBesideInRow bo_liveBesideInColumn]) [0] rfl
      replace hD := hD.sub (ws' := [cBO hBO bo_width bo_height bo_floor bo_goals bo_live bo_boxes bo_person hBS bo_liveBesideInRow bo_liveBesideInColumn]) [0] rfl rfl
      refine g_cl (wr := [cBO hBO bo_width bo_height bo_floor bo_goals bo_live bo_boxes bo_person hBS bo_liveBesideInRow bo_liveBesideInColumn]) X [] [0] (g_rN (As := [.long v4, .int r_1]) (rest := [.long bo_floor, .long v4]) X (c_PB_shifted l G v4 r_1 _ h _) lk_X0_58 rfl rfl ⟨Nat.le_of_ble_eq_true rfl, Nat.le_of_ble_eq_true rfl⟩ hP hD hS [] rfl rfl rfl hl.1 rfl (Nat.le_of_ble_eq_true rfl) dX0_liveCells_38 ⟨Nat.le_of_ble_eq_true rfl, Nat.le_of_ble_eq_true rfl⟩) hP hD hS rfl rfl rfl (by decide) (fun r_2 u H locs h hP hD hS => ?_)
      try dsimp only at h
      replace hP := hP.sub (ws' := [cBO hBO bo_width bo_height bo_floor bo_goals bo_live bo_boxes bo_person hBS bo_liveBesideInRow bo_liveBesideInColumn]) [0] rfl
      replace hD := hD.sub (ws' := [cBO hBO bo_width bo_height bo_floor bo_goals bo_live bo_boxes bo_person hBS bo_liveBesideInRow bo_liveBesideInColumn]) [0] rfl rfl
      refine lv_land X.1 X.2.1 dX0_liveCells_41 ?_
      refine lv_aload_n X.1 X.2.1 dX0_liveCells_42 rfl (lv_at hl 0 rfl) ?_
      refine g_get X hP 0 0 2 (v := .long bo_floor) rfl rfl inX0 (by decide) fl_X0_36 rfl dX0_liveCells_43 ?_
      refine lv_iload X.1 X.2.1 dX0_liveCells_46 (lv_at hl 4 rfl) ?_
      refine g_cl (wr := [cBO hBO bo_width bo_height bo_floor bo_goals bo_live bo_boxes bo_person hBS bo_liveBesideInRow bo_liveBesideInColumn]) X [] [0] (g_rN (As := [.long bo_floor, .int v6]) (rest := [.long (bo_floor &&& r_2), .long v4]) X (c_PB_shifted l G bo_floor v6 _ h _) lk_X0_58 rfl rfl ⟨Nat.le_of_ble_eq_true rfl, Nat.le_of_ble_eq_true rfl⟩ hP hD hS [] rfl rfl rfl hl.1 rfl (Nat.le_of_ble_eq_true rfl) dX0_liveCells_48 ⟨Nat.le_of_ble_eq_true rfl, Nat.le_of_ble_eq_true rfl⟩) hP hD hS rfl rfl rfl (by decide) (fun r_3 u H locs h hP hD hS => ?_)
      try dsimp only at h
      replace hP := hP.sub (ws' := [cBO hBO bo_width bo_height bo_floor bo_goals bo_live bo_boxes bo_person hBS bo_liveBesideInRow bo_liveBesideInColumn]) [0] rfl
      replace hD := hD.sub (ws' := [cBO hBO bo_width bo_height bo_floor bo_goals bo_live bo_boxes bo_person hBS bo_liveBesideInRow bo_liveBesideInColumn]) [0] rfl rfl
      refine lv_land X.1 X.2.1 dX0_liveCells_51 ?_
      refine lv_lor X.1 X.2.1 dX0_liveCells_52 ?_
      refine lv_topl (fun v4_4 e_v4_4 => ?_)
      replace h := h v4_4 e_v4_4
      refine lv_lstore (lv' := [(4, .long v4_4), (0, .ref hBO), (1, .long v1), (3, .int v3), (6, .int v6)]) X.1 X.2.1 dX0_liveCells_53 hl (by decide) rfl (fun ls hl => ?_)
      refine lv_iinc (v := (v6 + (1 : Int32))) (lv' := [(6, .int (v6 + (1 : Int32))), (4, .long v4_4), (0, .ref hBO), (1, .long v1), (3, .int v3)]) X.1 X.2.1 dX0_liveCells_55 hl (k := 4) rfl rfl (by decide) rfl (fun ls hl => ?_)
      refine lv_goto (tgt := 19) X.1 X.2.1 dX0_liveCells_58 (by decide) ?_
      exact ih v1 v3 v4_4 (v6 + (1 : Int32)) _ _ _ h hP hD hS (lv_sub hl [2, 3, 4, 1, 0] rfl)
set_option maxHeartbeats 4000000 in
set_option maxRecDepth 100000 in
theorem s_BO_liveCells_7 {p : Program} {l : Launch} {e : Env} {s : State} {m : MethodId} {args : Array Value} {below : List Frame} {meth : Method} {c : Code} {G : gEnv} {A : Nat → Prop} {hBO : Nat} {hBS : Nat} {bo_width : Int32} {bo_height : Int32} {bo_live : Int64} {bo_boxes : Int64} {bo_person : Int64} {bo_liveBesideInRow : Int64} {bo_liveBesideInColumn : Int64} {bo_floor : Int64} {bo_goals : Int64} {post : Int64 → Prop} (X : gX p m meth c cX0_liveCells 7 RX0 (some .long) s args G A)  : ∀ (n : Nat) (v1 : Int64) (v3 : Int32) (H : Heap) (locs : List Loc) (ls : Array Slot), BO_liveCells_7 bo_floor bo_goals post n v1 v3 → va_P G.1 gCl [cBO hBO bo_width bo_height bo_floor bo_goals bo_live bo_boxes bo_person hBS bo_liveBesideInRow bo_liveBesideInColumn] H → va_D A [cBO hBO bo_width bo_height bo_floor bo_goals bo_live bo_boxes bo_person hBS bo_liveBesideInRow bo_liveBesideInColumn] → va_S A s.heap H locs → lv_has ls 7 [(0, .ref hBO), (1, .long v1), (3, .int v3)] → W p l e rm_BO_liveCells s m args below meth c H locs 0 0 (MQ below (gQl G (fun (r : Int64) (u : Unit) => post r ) (fun (u : Unit) => [cBO hBO bo_width bo_height bo_floor bo_goals bo_live bo_boxes bo_person hBS bo_liveBesideInRow bo_liveBesideInColumn]) A) args s 0 0 A) (F0 m 7 ls []) := by
  intro n
  induction n with
  | zero => intro v1 v3 H locs ls h _ _ _ _; exact h.elim
  | succ n ih =>
    intro v1 v3 H locs ls h hP hD hS hl
    unfold BO_liveCells_7 at h
    refine lv_iload_n X.1 X.2.1 dX0_liveCells_7 rfl (lv_at hl 2 rfl) ?_
    refine lv_bipush (v := (64 : Int32)) X.1 X.2.1 dX0_liveCells_8 (by decide) ?_
    refine lv_icmp_ge (tgt := 80) X.1 X.2.1 dX0_liveCells_10 (by decide) (fun hc => ?_) (fun hc => ?_)
    · replace h := Eq.mp (if_pos hc) h
      refine lv_lload_n X.1 X.2.1 dX0_liveCells_80 rfl (lv_at hl 1 rfl) ?_
      exact g_lret X () h hP hD hS dX0_liveCells_81
    · replace h := Eq.mp (if_neg hc) h
      refine lv_lload_n X.1 X.2.1 dX0_liveCells_13 rfl (lv_at hl 1 rfl) ?_
      refine lv_lstore (lv' := [(4, .long v1), (0, .ref hBO), (1, .long v1), (3, .int v3)]) X.1 X.2.1 dX0_liveCells_14 hl (by decide) rfl (fun ls hl => ?_)
      refine lv_iconst (v := (0 : Int32)) X.1 X.2.1 dX0_liveCells_16 (by decide) ?_
      refine lv_istore (lv' := [(6, .int (0 : Int32)), (4, .long v1), (0, .ref hBO), (1, .long v1), (3, .int v3)]) X.1 X.2.1 dX0_liveCells_17 hl (by decide) rfl (fun ls hl => ?_)
      obtain ⟨n', h⟩ := h
      exact s_BO_liveCells_19 X (fun v1' v3' H' locs' ls' h' hP' hD' hS' hl' => ih v1' v3' H' locs' ls' h' hP' hD' hS' hl') n' v1 v3 v1 (0 : Int32) _ _ _ h hP hD hS (lv_sub hl [2, 3, 4, 1, 0] rfl)
set_option maxHeartbeats 4000000 in
set_option maxRecDepth 100000 in
theorem c_BO_liveCells (l : Launch) (G : gEnv) (hBO : Nat) (hBS : Nat) (bo_width : Int32) (bo_height : Int32) (bo_floor : Int64) (bo_goals : Int64) (bo_live : Int64) (bo_boxes : Int64) (bo_person : Int64) (bo_liveBesideInRow : Int64) (bo_liveBesideInColumn : Int64) (post : Int64 → Prop) (h : BO_liveCells bo_floor bo_goals post) (sz : Nat) : Met l yX0_liveCells (Cond.code yX0_liveCells cX0_liveCells 7 (some .long) :: wAll) (rm_BO_liveCells) (gPc G [.ref hBO] [cBO hBO bo_width bo_height bo_floor bo_goals bo_live bo_boxes bo_person hBS bo_liveBesideInRow bo_liveBesideInColumn] sz) (gQl G (fun (r : Int64) (u : Unit) => post r ) (fun (u : Unit) => [cBO hBO bo_width bo_height bo_floor bo_goals bo_live bo_boxes bo_person hBS bo_liveBesideInRow bo_liveBesideInColumn]) (va_A [cBO hBO bo_width bo_height bo_floor bo_goals bo_live bo_boxes bo_person hBS bo_liveBesideInRow bo_liveBesideInColumn] sz)) 0 0 (va_A [cBO hBO bo_width bo_height bo_floor bo_goals bo_live bo_boxes bo_person hBS bo_liveBesideInRow bo_liveBesideInColumn] sz) := by
  refine Met.ofW (cc := cX0_liveCells) (maxL := 7) (ret := (some .long)) (by decide) rfl ?_
  intro p e s m args below meth c s₁ B hml hv
  obtain ⟨rfl, hsz, hP, hK, hD0⟩ := hv
  subst hsz
  have X := gX.ofB (ws := [cBO hBO bo_width bo_height bo_floor bo_goals bo_live bo_boxes bo_person hBS bo_liveBesideInRow bo_liveBesideInColumn]) B hml hK hD0
  have hD := hD0.self (sz := s.heap.size)
  generalize hAe : va_A [cBO hBO bo_width bo_height bo_floor bo_goals bo_live bo_boxes bo_person hBS bo_liveBesideInRow bo_liveBesideInColumn] s.heap.size = A at X hD ⊢
  have hS : va_S A s.heap s.heap [] := va_S.rf
  have hl := lv_entry ([.ref hBO]) (n := 7) (Nat.le_of_ble_eq_true rfl)
  rw [lg_entry_eq]
  generalize (lg_sl ([.ref hBO]) ++ List.replicate (7 - (lg_sl ([.ref hBO])).length) Slot.unset).toArray = ls at hl ⊢
  have hl : lv_has ls 7 [(0, .ref hBO)] := hl
  dsimp only [headSpec]
  unfold BO_liveCells at h
  refine lv_aload_n X.1 X.2.1 dX0_liveCells_0 rfl (lv_at hl 0 rfl) ?_
  refine g_get X hP 0 0 3 (v := .long bo_goals) rfl rfl inX0 (by decide) fl_X0_42 rfl dX0_liveCells_1 ?_
  refine lv_lstore_n (lv' := [(1, .long bo_goals), (0, .ref hBO)]) X.1 X.2.1 dX0_liveCells_4 rfl hl (by decide) rfl (fun ls hl => ?_)
  refine lv_iconst (v := (0 : Int32)) X.1 X.2.1 dX0_liveCells_5 (by decide) ?_
  refine lv_istore_n (lv' := [(3, .int (0 : Int32)), (1, .long bo_goals), (0, .ref hBO)]) X.1 X.2.1 dX0_liveCells_6 rfl hl (by decide) rfl (fun ls hl => ?_)
  obtain ⟨n', h⟩ := h
  exact s_BO_liveCells_7 X  n' bo_goals (0 : Int32) _ _ _ h hP hD hS (lv_sub hl [2, 1, 0] rfl)
abbrev rm_BO_setUp : Room := { frames := 2, cells := 0, slots := 0, locals := 48 }
set_option maxHeartbeats 4000000 in
set_option maxRecDepth 100000 in
theorem c_BO_setUp (l : Launch) (G : gEnv) (hPI : Nat) (hBO : Nat) (hBS : Nat) (pi_width : Int32) (pi_height : Int32) (pi_walls : Int64) (pi_goals : Int64) (pi_boxes : Int64) (pi_person : Int64) (pi_x : Int32) (pi_endedRows : Int32) (bo_width : Int32) (bo_height : Int32) (bo_floor : Int64) (bo_goals : Int64) (bo_live : Int64) (bo_boxes : Int64) (bo_person : Int64) (bo_liveBesideInRow : Int64) (bo_liveBesideInColumn : Int64) (post : Int32 → Int32 → Int64 → Int64 → Int64 → Int64 → Int64 → Int64 → Int64 → Prop) (h : BO_setUp pi_width pi_height pi_walls pi_goals pi_boxes pi_person bo_width bo_height bo_floor bo_goals bo_live bo_boxes bo_person bo_liveBesideInRow bo_liveBesideInColumn post) (sz : Nat) : Met l yX0_setUp (Cond.code yX0_setUp cX0_setUp 2 none :: wAll) (rm_BO_setUp) (gPc G [.ref hBO, .ref hPI] [cPI hPI pi_width pi_height pi_walls pi_goals pi_boxes pi_person pi_x pi_endedRows, cBO hBO bo_width bo_height bo_floor bo_goals bo_live bo_boxes bo_person hBS bo_liveBesideInRow bo_liveBesideInColumn] sz) (gQv G (fun (u : Int32 × Int32 × Int64 × Int64 × Int64 × Int64 × Int64 × Int64 × Int64) => post u.1 u.2.1 u.2.2.1 u.2.2.2.1 u.2.2.2.2.1 u.2.2.2.2.2.1 u.2.2.2.2.2.2.1 u.2.2.2.2.2.2.2.1 u.2.2.2.2.2.2.2.2) (fun (u : Int32 × Int32 × Int64 × Int64 × Int64 × Int64 × Int64 × Int64 × Int64) => [cPI hPI pi_width pi_height pi_walls pi_goals pi_boxes pi_person pi_x pi_endedRows, cBO hBO u.1 u.2.1 u.2.2.1 u.2.2.2.1 u.2.2.2.2.1 u.2.2.2.2.2.1 u.2.2.2.2.2.2.1 hBS u.2.2.2.2.2.2.2.1 u.2.2.2.2.2.2.2.2]) (va_A [cPI hPI pi_width pi_height pi_walls pi_goals pi_boxes pi_person pi_x pi_endedRows, cBO hBO bo_width bo_height bo_floor bo_goals bo_live bo_boxes bo_person hBS bo_liveBesideInRow bo_liveBesideInColumn] sz)) 0 0 (va_A [cPI hPI pi_width pi_height pi_walls pi_goals pi_boxes pi_person pi_x pi_endedRows, cBO hBO bo_width bo_height bo_floor bo_goals bo_live bo_boxes bo_person hBS bo_liveBesideInRow bo_liveBesideInColumn] sz) := by
  refine Met.ofW (cc := cX0_setUp) (maxL := 2) (ret := none) (by decide) rfl ?_
  intro p e s m args below meth c s₁ B hml hv
  obtain ⟨rfl, hsz, hP, hK, hD0⟩ := hv
  subst hsz
  have X := gX.ofB (ws := [cPI hPI pi_width pi_height pi_walls pi_goals pi_boxes pi_person pi_x pi_endedRows, cBO hBO bo_width bo_height bo_floor bo_goals bo_live bo_boxes bo_person hBS bo_liveBesideInRow bo_liveBesideInColumn]) B hml hK hD0
  have hD := hD0.self (sz := s.heap.size)
  generalize hAe : va_A [cPI hPI pi_width pi_height pi_walls pi_goals pi_boxes pi_person pi_x pi_endedRows, cBO hBO bo_width bo_height bo_floor bo_goals bo_live bo_boxes bo_person hBS bo_liveBesideInRow bo_liveBesideInColumn] s.heap.size = A at X hD ⊢
  have hS : va_S A s.heap s.heap [] := va_S.rf
  have hl := lv_entry ([.ref hBO, .ref hPI]) (n := 2) (Nat.le_of_ble_eq_true rfl)
  rw [lg_entry_eq]
  generalize (lg_sl ([.ref hBO, .ref hPI]) ++ List.replicate (2 - (lg_sl ([.ref hBO, .ref hPI])).length) Slot.unset).toArray = ls at hl ⊢
  have hl : lv_has ls 2 [(0, .ref hBO), (1, .ref hPI)] := hl
  dsimp only [headSpec]
  unfold BO_setUp at h
  refine lv_aload_n X.1 X.2.1 dX0_setUp_0 rfl (lv_at hl 0 rfl) ?_
  refine lv_aload_n X.1 X.2.1 dX0_setUp_1 rfl (lv_at hl 1 rfl) ?_
  refine g_get X hP 0 3 0 (v := .int pi_width) rfl rfl inX3 (by decide) fl_X0_15 rfl dX0_setUp_2 ?_
  refine g_put X hP hD hS 1 0 0 (v := .int pi_width) rfl rfl inX0 tyX0 tyX0_ok nmX0 (by decide) fl_X0_21 rfl rfl rfl rfl (Nat.le_of_ble_eq_true rfl) dX0_setUp_5 (fun H locs hP hD hS => ?_)
  replace hP : va_P G.1 gCl [cPI hPI pi_width pi_height pi_walls pi_goals pi_boxes pi_person pi_x pi_endedRows, cBO hBO pi_width bo_height bo_floor bo_goals bo_live bo_boxes bo_person hBS bo_liveBesideInRow bo_liveBesideInColumn] H := hP
  replace hD : va_D A [cPI hPI pi_width pi_height pi_walls pi_goals pi_boxes pi_person pi_x pi_endedRows, cBO hBO pi_width bo_height bo_floor bo_goals bo_live bo_boxes bo_person hBS bo_liveBesideInRow bo_liveBesideInColumn] := hD
  refine lv_aload_n X.1 X.2.1 dX0_setUp_8 rfl (lv_at hl 0 rfl) ?_
  refine lv_aload_n X.1 X.2.1 dX0_setUp_9 rfl (lv_at hl 1 rfl) ?_
  refine g_get X hP 0 3 1 (v := .int pi_height) rfl rfl inX3 (by decide) fl_X0_22 rfl dX0_setUp_10 ?_
  refine g_put X hP hD hS 1 0 1 (v := .int pi_height) rfl rfl inX0 tyX0 tyX0_ok nmX0 (by decide) fl_X0_25 rfl rfl rfl rfl (Nat.le_of_ble_eq_true rfl) dX0_setUp_13 (fun H locs hP hD hS => ?_)
  replace hP : va_P G.1 gCl [cPI hPI pi_width pi_height pi_walls pi_goals pi_boxes pi_person pi_x pi_endedRows, cBO hBO pi_width pi_height bo_floor bo_goals bo_live bo_boxes bo_person hBS bo_liveBesideInRow bo_liveBesideInColumn] H := hP
  replace hD : va_D A [cPI hPI pi_width pi_height pi_walls pi_goals pi_boxes pi_person pi_x pi_endedRows, cBO hBO pi_width pi_height bo_floor bo_goals bo_live bo_boxes bo_person hBS bo_liveBesideInRow bo_liveBesideInColumn] := hD
  refine lv_aload_n X.1 X.2.1 dX0_setUp_16 rfl (lv_at hl 0 rfl) ?_
  refine lv_aload_n X.1 X.2.1 dX0_setUp_17 rfl (lv_at hl 0 rfl) ?_
  refine g_get X hP 1 0 0 (v := .int pi_width) rfl rfl inX0 (by decide) fl_X0_21 rfl dX0_setUp_18 ?_
  refine lv_aload_n X.1 X.2.1 dX0_setUp_21 rfl (lv_at hl 0 rfl) ?_
  refine g_get X hP 1 0 1 (v := .int pi_height) rfl rfl inX0 (by decide) fl_X0_25 rfl dX0_setUp_22 ?_
  refine g_cl (wr := [cPI hPI pi_width pi_height pi_walls pi_goals pi_boxes pi_person pi_x pi_endedRows, cBO hBO pi_width pi_height bo_floor bo_goals bo_live bo_boxes bo_person hBS bo_liveBesideInRow bo_liveBesideInColumn]) X [] [0, 1] (g_rS (As := [.int pi_width, .int pi_height]) (rest := [.ref hBO]) X (c_BO_rectangle l G pi_width pi_height _ h _) lk_X0_26 rfl rfl ⟨Nat.le_of_ble_eq_true rfl, Nat.le_of_ble_eq_true rfl⟩ hP hD hS [] rfl rfl rfl hl.1 rfl (Nat.le_of_ble_eq_true rfl) dX0_setUp_25 ⟨Nat.le_of_ble_eq_true rfl, Nat.le_of_ble_eq_true rfl⟩) hP hD hS rfl rfl rfl (by decide) (fun r_1 u H locs h hP hD hS => ?_)
  try dsimp only at h
  replace hP := hP.sub (ws' := [cPI hPI pi_width pi_height pi_walls pi_goals pi_boxes pi_person pi_x pi_endedRows, cBO hBO pi_width pi_height bo_floor bo_goals bo_live bo_boxes bo_person hBS bo_liveBesideInRow bo_liveBesideInColumn]) [0, 1] rfl
  replace hD := hD.sub (ws' := [cPI hPI pi_width pi_height pi_walls pi_goals pi_boxes pi_person pi_x pi_endedRows, cBO hBO pi_width pi_height bo_floor bo_goals bo_live bo_boxes bo_person hBS bo_liveBesideInRow bo_liveBesideInColumn]) [0, 1] rfl rfl
  refine lv_aload_n X.1 X.2.1 dX0_setUp_28 rfl (lv_at hl 1 rfl) ?_
  refine g_get X hP 0 3 2 (v := .long pi_walls) rfl rfl inX3 (by decide) fl_X0_30 rfl dX0_setUp_29 ?_
  refine lv_ldc2 (v := (-1 : Int64)) X.1 X.2.1 X.2.2.2.1 (X.2.2.2.2.1 _ cn_X0_34) dX0_setUp_32 ?_
  refine lv_lxor X.1 X.2.1 dX0_setUp_35 ?_
  refine lv_land X.1 X.2.1 dX0_setUp_36 ?_
  refine lv_topl (fun bo_floor_2 e_bo_floor_2 => ?_)
  replace h := h bo_floor_2 e_bo_floor_2
  refine g_put X hP hD hS 1 0 2 (v := .long bo_floor_2) rfl rfl inX0 tyX0 tyX0_ok nmX0 (by decide) fl_X0_36 rfl rfl rfl rfl (Nat.le_of_ble_eq_true rfl) dX0_setUp_37 (fun H locs hP hD hS => ?_)
  replace hP : va_P G.1 gCl [cPI hPI pi_width pi_height pi_walls pi_goals pi_boxes pi_person pi_x pi_endedRows, cBO hBO pi_width pi_height bo_floor_2 bo_goals bo_live bo_boxes bo_person hBS bo_liveBesideInRow bo_liveBesideInColumn] H := hP
  replace hD : va_D A [cPI hPI pi_width pi_height pi_walls pi_goals pi_boxes pi_person pi_x pi_endedRows, cBO hBO pi_width pi_height bo_floor_2 bo_goals bo_live bo_boxes bo_person hBS bo_liveBesideInRow bo_liveBesideInColumn] := hD
  refine lv_aload_n X.1 X.2.1 dX0_setUp_40 rfl (lv_at hl 0 rfl) ?_
  refine lv_aload_n X.1 X.2.1 dX0_setUp_41 rfl (lv_at hl 1 rfl) ?_
  refine g_get X hP 0 3 3 (v := .long pi_goals) rfl rfl inX3 (by decide) fl_X0_39 rfl dX0_setUp_42 ?_
  refine g_put X hP hD hS 1 0 3 (v := .long pi_goals) rfl rfl inX0 tyX0 tyX0_ok nmX0 (by decide) fl_X0_42 rfl rfl rfl rfl (Nat.le_of_ble_eq_true rfl) dX0_setUp_45 (fun H locs hP hD hS => ?_)
  replace hP : va_P G.1 gCl [cPI hPI pi_width pi_height pi_walls pi_goals pi_boxes pi_person pi_x pi_endedRows, cBO hBO pi_width pi_height bo_floor_2 pi_goals bo_live bo_boxes bo_person hBS bo_liveBesideInRow bo_liveBesideInColumn] H := hP
  replace hD : va_D A [cPI hPI pi_width pi_height pi_walls pi_goals pi_boxes pi_person pi_x pi_endedRows, cBO hBO pi_width pi_height bo_floor_2 pi_goals bo_live bo_boxes bo_person hBS bo_liveBesideInRow bo_liveBesideInColumn] := hD
  refine lv_aload_n X.1 X.2.1 dX0_setUp_48 rfl (lv_at hl 0 rfl) ?_
  refine lv_aload_n X.1 X.2.1 dX0_setUp_49 rfl (lv_at hl 1 rfl) ?_
  refine g_get X hP 0 3 4 (v := .long pi_boxes) rfl rfl inX3 (by decide) fl_X0_43 rfl dX0_setUp_50 ?_
  refine g_put X hP hD hS 1 0 5 (v := .long pi_boxes) rfl rfl inX0 tyX0 tyX0_ok nmX0 (by decide) fl_X0_46 rfl rfl rfl rfl (Nat.le_of_ble_eq_true rfl) dX0_setUp_53 (fun H locs hP hD hS => ?_)
  replace hP : va_P G.1 gCl [cPI hPI pi_width pi_height pi_walls pi_goals pi_boxes pi_person pi_x pi_endedRows, cBO hBO pi_width pi_height bo_floor_2 pi_goals bo_live pi_boxes bo_person hBS bo_liveBesideInRow bo_liveBesideInColumn] H := hP
  replace hD : va_D A [cPI hPI pi_width pi_height pi_walls pi_goals pi_boxes pi_person pi_x pi_endedRows, cBO hBO pi_width pi_height bo_floor_2 pi_goals bo_live pi_boxes bo_person hBS bo_liveBesideInRow bo_liveBesideInColumn] := hD
  refine lv_aload_n X.1 X.2.1 dX0_setUp_56 rfl (lv_at hl 0 rfl) ?_
  refine lv_aload_n X.1 X.2.1 dX0_setUp_57 rfl (lv_at hl 1 rfl) ?_
  refine g_get X hP 0 3 5 (v := .long pi_person) rfl rfl inX3 (by decide) fl_X0_47 rfl dX0_setUp_58 ?_
  refine g_put X hP hD hS 1 0 6 (v := .long pi_person) rfl rfl inX0 tyX0 tyX0_ok nmX0 (by decide) fl_X0_50 rfl rfl rfl rfl (Nat.le_of_ble_eq_true rfl) dX0_setUp_61 (fun H locs hP hD hS => ?_)
  replace hP : va_P G.1 gCl [cPI hPI pi_width pi_height pi_walls pi_goals pi_boxes pi_person pi_x pi_endedRows, cBO hBO pi_width pi_height bo_floor_2 pi_goals bo_live pi_boxes pi_person hBS bo_liveBesideInRow bo_liveBesideInColumn] H := hP
  replace hD : va_D A [cPI hPI pi_width pi_height pi_walls pi_goals pi_boxes pi_person pi_x pi_endedRows, cBO hBO pi_width pi_height bo_floor_2 pi_goals bo_live pi_boxes pi_person hBS bo_liveBesideInRow bo_liveBesideInColumn] := hD
  refine lv_aload_n X.1 X.2.1 dX0_setUp_64 rfl (lv_at hl 0 rfl) ?_
  refine lv_aload_n X.1 X.2.1 dX0_setUp_65 rfl (lv_at hl 0 rfl) ?_
  refine g_cl (wr := [cPI hPI pi_width pi_height pi_walls pi_goals pi_boxes pi_person pi_x pi_endedRows]) X [1] [0] (g_rV (As := []) (rest := [.ref hBO]) X (c_BO_liveCells l G hBO hBS pi_width pi_height bo_floor_2 pi_goals bo_live pi_boxes pi_person bo_liveBesideInRow bo_liveBesideInColumn _ h _) lk_X0_51 rfl rfl ⟨Nat.le_of_ble_eq_true rfl, Nat.le_of_ble_eq_true rfl⟩ hP hD hS [1] rfl rfl 1 0 rfl rfl rfl hl.1 rfl (Nat.le_of_ble_eq_true rfl) dX0_setUp_66 ⟨Nat.le_of_ble_eq_true rfl, Nat.le_of_ble_eq_true rfl⟩) hP hD hS rfl rfl rfl (by decide) (fun r_3 u H locs h hP hD hS => ?_)
  try dsimp only at h
  replace hP := hP.sub (ws' := [cPI hPI pi_width pi_height pi_walls pi_goals pi_boxes pi_person pi_x pi_endedRows, cBO hBO pi_width pi_height bo_floor_2 pi_goals bo_live pi_boxes pi_person hBS bo_liveBesideInRow bo_liveBesideInColumn]) [0, 1] rfl
  replace hD := hD.sub (ws' := [cPI hPI pi_width pi_height pi_walls pi_goals pi_boxes pi_person pi_x pi_endedRows, cBO hBO pi_width pi_height bo_floor_2 pi_goals bo_live pi_boxes pi_person hBS bo_liveBesideInRow bo_liveBesideInColumn]) [0, 1] rfl rfl
  refine g_put X hP hD hS 1 0 4 (v := .long r_3) rfl rfl inX0 tyX0 tyX0_ok nmX0 (by decide) fl_X0_55 rfl rfl rfl rfl (Nat.le_of_ble_eq_true rfl) dX0_setUp_69 (fun H locs hP hD hS => ?_)
  replace hP : va_P G.1 gCl [cPI hPI pi_width pi_height pi_walls pi_goals pi_boxes pi_person pi_x pi_endedRows, cBO hBO pi_width pi_height bo_floor_2 pi_goals r_3 pi_boxes pi_person hBS bo_liveBesideInRow bo_liveBesideInColumn] H := hP
  replace hD : va_D A [cPI hPI pi_width pi_height pi_walls pi_goals pi_boxes pi_person pi_x pi_endedRows, cBO hBO pi_width pi_height bo_floor_2 pi_goals r_3 pi_boxes pi_person hBS bo_liveBesideInRow bo_liveBesideInColumn] := hD
  refine lv_aload_n X.1 X.2.1 dX0_setUp_72 rfl (lv_at hl 0 rfl) ?_
  refine lv_aload_n X.1 X.2.1 dX0_setUp_73 rfl (lv_at hl 0 rfl) ?_
  refine g_get X hP 1 0 4 (v := .long r_3) rfl rfl inX0 (by decide) fl_X0_55 rfl dX0_setUp_74 ?_
  refine lv_iconst (v := (0 : Int32)) X.1 X.2.1 dX0_setUp_77 (by decide) ?_
  refine g_cl (wr := [cPI hPI pi_width pi_height pi_walls pi_goals pi_boxes pi_person pi_x pi_endedRows, cBO hBO pi_width pi_height bo_floor_2 pi_goals r_3 pi_boxes pi_person hBS bo_liveBesideInRow bo_liveBesideInColumn]) X [] [0, 1] (g_rN (As := [.long r_3, .int (0 : Int32)]) (rest := [.ref hBO]) X (c_PB_shifted l G r_3 (0 : Int32) _ h _) lk_X0_58 rfl rfl ⟨Nat.le_of_ble_eq_true rfl, Nat.le_of_ble_eq_true rfl⟩ hP hD hS [] rfl rfl rfl hl.1 rfl (Nat.le_of_ble_eq_true rfl) dX0_setUp_78 ⟨Nat.le_of_ble_eq_true rfl, Nat.le_of_ble_eq_true rfl⟩) hP hD hS rfl rfl rfl (by decide) (fun r_4 u H locs h hP hD hS => ?_)
  try dsimp only at h
  replace hP := hP.sub (ws' := [cPI hPI pi_width pi_height pi_walls pi_goals pi_boxes pi_person pi_x pi_endedRows, cBO hBO pi_width pi_height bo_floor_2 pi_goals r_3 pi_boxes pi_person hBS bo_liveBesideInRow bo_liveBesideInColumn]) [0, 1] rfl
  replace hD := hD.sub (ws' := [cPI hPI pi_width pi_height pi_walls pi_goals pi_boxes pi_person pi_x pi_endedRows, cBO hBO pi_width pi_height bo_floor_2 pi_goals r_3 pi_boxes pi_person hBS bo_liveBesideInRow bo_liveBesideInColumn]) [0, 1] rfl rfl
  refine lv_aload_n X.1 X.2.1 dX0_setUp_81 rfl (lv_at hl 0 rfl) ?_
  refine g_get X hP 1 0 4 (v := .long r_3) rfl rfl inX0 (by decide) fl_X0_55 rfl dX0_setUp_82 ?_
  refine lv_iconst (v := (2 : Int32)) X.1 X.2.1 dX0_setUp_85 (by decide) ?_
  refine g_cl (wr := [cPI hPI pi_width pi_height pi_walls pi_goals pi_boxes pi_person pi_x pi_endedRows, cBO hBO pi_width pi_height bo_floor_2 pi_goals r_3 pi_boxes pi_person hBS bo_liveBesideInRow bo_liveBesideInColumn]) X [] [0, 1] (g_rN (As := [.long r_3, .int (2 : Int32)]) (rest := [.long r_4, .ref hBO]) X (c_PB_shifted l G r_3 (2 : Int32) _ h _) lk_X0_58 rfl rfl ⟨Nat.le_of_ble_eq_true rfl, Nat.le_of_ble_eq_true rfl⟩ hP hD hS [] rfl rfl rfl hl.1 rfl (Nat.le_of_ble_eq_true rfl) dX0_setUp_86 ⟨Nat.le_of_ble_eq_true rfl, Nat.le_of_ble_eq_true rfl⟩) hP hD hS rfl rfl rfl (by decide) (fun r_5 u H locs h hP hD hS => ?_)
  try dsimp only at h
  replace hP := hP.sub (ws' := [cPI hPI pi_width pi_height pi_walls pi_goals pi_boxes pi_person pi_x pi_endedRows, cBO hBO pi_width pi_height bo_floor_2 pi_goals r_3 pi_boxes pi_person hBS bo_liveBesideInRow bo_liveBesideInColumn]) [0, 1] rfl
  replace hD := hD.sub (ws' := [cPI hPI pi_width pi_height pi_walls pi_goals pi_boxes pi_person pi_x pi_endedRows, cBO hBO pi_width pi_height bo_floor_2 pi_goals r_3 pi_boxes pi_person hBS bo_liveBesideInRow bo_liveBesideInColumn]) [0, 1] rfl rfl
  refine lv_lor X.1 X.2.1 dX0_setUp_89 ?_
  refine lv_topl (fun bo_liveBesideInRow_6 e_bo_liveBesideInRow_6 => ?_)
  replace h := h bo_liveBesideInRow_6 e_bo_liveBesideInRow_6
  refine g_put X hP hD hS 1 0 8 (v := .long bo_liveBesideInRow_6) rfl rfl inX0 tyX0 tyX0_ok nmX0 (by decide) fl_X0_62 rfl rfl rfl rfl (Nat.le_of_ble_eq_true rfl) dX0_setUp_90 (fun H locs hP hD hS => ?_)
  replace hP : va_P G.1 gCl [cPI hPI pi_width pi_height pi_walls pi_goals pi_boxes pi_person pi_x pi_endedRows, cBO hBO pi_width pi_height bo_floor_2 pi_goals r_3 pi_boxes pi_person hBS bo_liveBesideInRow_6 bo_liveBesideInColumn] H := hP
  replace hD : va_D A [cPI hPI pi_width pi_height pi_walls pi_goals pi_boxes pi_person pi_x pi_endedRows, cBO hBO pi_width pi_height bo_floor_2 pi_goals r_3 pi_boxes pi_person hBS bo_liveBesideInRow_6 bo_liveBesideInColumn] := hD
  refine lv_aload_n X.1 X.2.1 dX0_setUp_93 rfl (lv_at hl 0 rfl) ?_
  refine lv_aload_n X.1 X.2.1 dX0_setUp_94 rfl (lv_at hl 0 rfl) ?_
  refine g_get X hP 1 0 4 (v := .long r_3) rfl rfl inX0 (by decide) fl_X0_55 rfl dX0_setUp_95 ?_
  refine lv_iconst (v := (1 : Int32)) X.1 X.2.1 dX0_setUp_98 (by decide) ?_
  refine g_cl (wr := [cPI hPI pi_width pi_height pi_walls pi_goals pi_boxes pi_person pi_x pi_endedRows, cBO hBO pi_width pi_height bo_floor_2 pi_goals r_3 pi_boxes pi_person hBS bo_liveBesideInRow_6 bo_liveBesideInColumn]) X [] [0, 1] (g_rN (As := [.long r_3, .int (1 : Int32)]) (rest := [.ref hBO]) X (c_PB_shifted l G r_3 (1 : Int32) _ h _) lk_X0_58 rfl rfl ⟨Nat.le_of_ble_eq_true rfl, Nat.le_of_ble_eq_true rfl⟩ hP hD hS [] rfl rfl rfl hl.1 rfl (Nat.le_of_ble_eq_true rfl) dX0_setUp_99 ⟨Nat.le_of_ble_eq_true rfl, Nat.le_of_ble_eq_true rfl⟩) hP hD hS rfl rfl rfl (by decide) (fun r_7 u H locs h hP hD hS => ?_)
  try dsimp only at h
  replace hP := hP.sub (ws' := [cPI hPI pi_width pi_height pi_walls pi_goals pi_boxes pi_person pi_x pi_endedRows, cBO hBO pi_width pi_height bo_floor_2 pi_goals r_3 pi_boxes pi_person hBS bo_liveBesideInRow_6 bo_liveBesideInColumn]) [0, 1] rfl
  replace hD := hD.sub (ws' := [cPI hPI pi_width pi_height pi_walls pi_goals pi_boxes pi_person pi_x pi_endedRows, cBO hBO pi_width pi_height bo_floor_2 pi_goals r_3 pi_boxes pi_person hBS bo_liveBesideInRow_6 bo_liveBesideInColumn]) [0, 1] rfl rfl
  refine lv_aload_n X.1 X.2.1 dX0_setUp_102 rfl (lv_at hl 0 rfl) ?_
  refine g_get X hP 1 0 4 (v := .long r_3) rfl rfl inX0 (by decide) fl_X0_55 rfl dX0_setUp_103 ?_
  refine lv_iconst (v := (3 : Int32)) X.1 X.2.1 dX0_setUp_106 (by decide) ?_
  refine g_cl (wr := [cPI hPI pi_width pi_height pi_walls pi_goals pi_boxes pi_person pi_x pi_endedRows, cBO hBO pi_width pi_height bo_floor_2 pi_goals r_3 pi_boxes pi_person hBS bo_liveBesideInRow_6 bo_liveBesideInColumn]) X [] [0, 1] (g_rN (As := [.long r_3, .int (3 : Int32)]) (rest := [.long r_7, .ref hBO]) X (c_PB_shifted l G r_3 (3 : Int32) _ h _) lk_X0_58 rfl rfl ⟨Nat.le_of_ble_eq_true rfl, Nat.le_of_ble_eq_true rfl⟩ hP hD hS [] rfl rfl rfl hl.1 rfl (Nat.le_of_ble_eq_true rfl) dX0_setUp_107 ⟨Nat.le_of_ble_eq_true rfl, Nat.le_of_ble_eq_true rfl⟩) hP hD hS rfl rfl rfl (by decide) (fun r_8 u H locs h hP hD hS => ?_)
  try dsimp only at h
  replace hP := hP.sub (ws' := [cPI hPI pi_width pi_height pi_walls pi_goals pi_boxes pi_person pi_x pi_endedRows, cBO hBO pi_width pi_height bo_floor_2 pi_goals r_3 pi_boxes pi_person hBS bo_liveBesideInRow_6 bo_liveBesideInColumn]) [0, 1] rfl
  replace hD := hD.sub (ws' := [cPI hPI pi_width pi_height pi_walls pi_goals pi_boxes pi_person pi_x pi_endedRows, cBO hBO pi_width pi_height bo_floor_2 pi_goals r_3 pi_boxes pi_person hBS bo_liveBesideInRow_6 bo_liveBesideInColumn]) [0, 1] rfl rfl
  refine lv_lor X.1 X.2.1 dX0_setUp_110 ?_
  refine lv_topl (fun bo_liveBesideInColumn_9 e_bo_liveBesideInColumn_9 => ?_)
  replace h := h bo_liveBesideInColumn_9 e_bo_liveBesideInColumn_9
  refine g_put X hP hD hS 1 0 9 (v := .long bo_liveBesideInColumn_9) rfl rfl inX0 tyX0 tyX0_ok nmX0 (by decide) fl_X0_65 rfl rfl rfl rfl (Nat.le_of_ble_eq_true rfl) dX0_setUp_111 (fun H locs hP hD hS => ?_)
  replace hP : va_P G.1 gCl [cPI hPI pi_width pi_height pi_walls pi_goals pi_boxes pi_person pi_x pi_endedRows, cBO hBO pi_width pi_height bo_floor_2 pi_goals r_3 pi_boxes pi_person hBS bo_liveBesideInRow_6 bo_liveBesideInColumn_9] H := hP
  replace hD : va_D A [cPI hPI pi_width pi_height pi_walls pi_goals pi_boxes pi_person pi_x pi_endedRows, cBO hBO pi_width pi_height bo_floor_2 pi_goals r_3 pi_boxes pi_person hBS bo_liveBesideInRow_6 bo_liveBesideInColumn_9] := hD
  exact g_vret X (pi_width, pi_height, bo_floor_2, pi_goals, r_3, pi_boxes, pi_person, bo_liveBesideInRow_6, bo_liveBesideInColumn_9) h hP hD hS dX0_setUp_114
abbrev rm_BO_isThere : Room := { frames := 0, cells := 0, slots := 0, locals := 0 }
set_option maxHeartbeats 4000000 in
set_option maxRecDepth 100000 in
theorem c_BO_isThere (l : Launch) (G : gEnv) (hBO : Nat) (hBS : Nat) (bo_width : Int32) (bo_height : Int32) (bo_floor : Int64) (bo_goals : Int64) (bo_live : Int64) (bo_boxes : Int64) (bo_person : Int64) (bo_liveBesideInRow : Int64) (bo_liveBesideInColumn : Int64) (post : Int32 → Prop) (h : BO_isThere bo_person post) (sz : Nat) : Met l yX0_isThere (Cond.code yX0_isThere cX0_isThere 1 (some .boolean) :: wAll) (rm_BO_isThere) (gPc G [.ref hBO] [cBO hBO bo_width bo_height bo_floor bo_goals bo_live bo_boxes bo_person hBS bo_liveBesideInRow bo_liveBesideInColumn] sz) (gQi G (fun (r : Int32) (u : Unit) => post r ) (fun (u : Unit) => [cBO hBO bo_width bo_height bo_floor bo_goals bo_live bo_boxes bo_person hBS bo_liveBesideInRow bo_liveBesideInColumn]) (va_A [cBO hBO bo_width bo_height bo_floor bo_goals bo_live bo_boxes bo_person hBS bo_liveBesideInRow bo_liveBesideInColumn] sz)) 0 0 (va_A [cBO hBO bo_width bo_height bo_floor bo_goals bo_live bo_boxes bo_person hBS bo_liveBesideInRow bo_liveBesideInColumn] sz) := by
  refine Met.ofW (cc := cX0_isThere) (maxL := 1) (ret := (some .boolean)) (by decide) rfl ?_
  intro p e s m args below meth c s₁ B hml hv
  obtain ⟨rfl, hsz, hP, hK, hD0⟩ := hv
  subst hsz
  have X := gX.ofB (ws := [cBO hBO bo_width bo_height bo_floor bo_goals bo_live bo_boxes bo_person hBS bo_liveBesideInRow bo_liveBesideInColumn]) B hml hK hD0
  have hD := hD0.self (sz := s.heap.size)
  generalize hAe : va_A [cBO hBO bo_width bo_height bo_floor bo_goals bo_live bo_boxes bo_person hBS bo_liveBesideInRow bo_liveBesideInColumn] s.heap.size = A at X hD ⊢
  have hS : va_S A s.heap s.heap [] := va_S.rf
  have hl := lv_entry ([.ref hBO]) (n := 1) (Nat.le_of_ble_eq_true rfl)
  rw [lg_entry_eq]
  generalize (lg_sl ([.ref hBO]) ++ List.replicate (1 - (lg_sl ([.ref hBO])).length) Slot.unset).toArray = ls at hl ⊢
  have hl : lv_has ls 1 [(0, .ref hBO)] := hl
  dsimp only [headSpec]
  unfold BO_isThere at h
  refine lv_aload_n X.1 X.2.1 dX0_isThere_0 rfl (lv_at hl 0 rfl) ?_
  refine g_get X hP 0 0 6 (v := .long bo_person) rfl rfl inX0 (by decide) fl_X0_50 rfl dX0_isThere_1 ?_
  refine lv_lconst (v := (0 : Int64)) X.1 X.2.1 dX0_isThere_4 (by decide) ?_
  refine g_lcmp_eq (tgt := 13) X dX0_isThere_5 dX0_isThere_6 (by decide) (fun hc => ?_) (fun hc => ?_)
  · replace h := Eq.mp (if_pos hc) h
    refine lv_iconst (v := (0 : Int32)) X.1 X.2.1 dX0_isThere_13 (by decide) ?_
    exact g_zret X (by decide) () h hP hD hS dX0_isThere_14
  · replace h := Eq.mp (if_neg hc) h
    refine lv_iconst (v := (1 : Int32)) X.1 X.2.1 dX0_isThere_9 (by decide) ?_
    refine lv_goto (tgt := 14) X.1 X.2.1 dX0_isThere_10 (by decide) ?_
    exact g_zret X (by decide) () h hP hD hS dX0_isThere_14
abbrev rm_BO_go : Room := { frames := 1, cells := 0, slots := 0, locals := 22 }
set_option maxHeartbeats 4000000 in
set_option maxRecDepth 100000 in
theorem c_BO_go (l : Launch) (G : gEnv) (hBO : Nat) (hBS : Nat) (bo_width : Int32) (bo_height : Int32) (bo_floor : Int64) (bo_goals : Int64) (bo_live : Int64) (bo_boxes : Int64) (bo_person : Int64) (bo_liveBesideInRow : Int64) (bo_liveBesideInColumn : Int64) (v1 : Int32) (post : Int32 → Int64 → Int64 → Prop) (h : BO_go bo_floor bo_boxes bo_person v1 post) (sz : Nat) : Met l yX0_go (Cond.code yX0_go cX0_go 6 (some .int) :: wAll) (rm_BO_go) (gPc G [.ref hBO, .int v1] [cBO hBO bo_width bo_height bo_floor bo_goals bo_live bo_boxes bo_person hBS bo_liveBesideInRow bo_liveBesideInColumn] sz) (gQi G (fun (r : Int32) (u : Int64 × Int64) => post r u.1 u.2) (fun (u : Int64 × Int64) => [cBO hBO bo_width bo_height bo_floor bo_goals bo_live u.1 u.2 hBS bo_liveBesideInRow bo_liveBesideInColumn]) (va_A [cBO hBO bo_width bo_height bo_floor bo_goals bo_live bo_boxes bo_person hBS bo_liveBesideInRow bo_liveBesideInColumn] sz)) 0 0 (va_A [cBO hBO bo_width bo_height bo_floor bo_goals bo_live bo_boxes bo_person hBS bo_liveBesideInRow bo_liveBesideInColumn] sz) := by
  refine Met.ofW (cc := cX0_go) (maxL := 6) (ret := (some .int)) (by decide) rfl ?_
  intro p e s m args below meth c s₁ B hml hv
  obtain ⟨rfl, hsz, hP, hK, hD0⟩ := hv
  subst hsz
  have X := gX.ofB (ws := [cBO hBO bo_width bo_height bo_floor bo_goals bo_live bo_boxes bo_person hBS bo_liveBesideInRow bo_liveBesideInColumn]) B hml hK hD0
  have hD := hD0.self (sz := s.heap.size)
  generalize hAe : va_A [cBO hBO bo_width bo_height bo_floor bo_goals bo_live bo_boxes bo_person hBS bo_liveBesideInRow bo_liveBesideInColumn] s.heap.size = A at X hD ⊢
  have hS : va_S A s.heap s.heap [] := va_S.rf
  have hl := lv_entry ([.ref hBO, .int v1]) (n := 6) (Nat.le_of_ble_eq_true rfl)
  rw [lg_entry_eq]
  generalize (lg_sl ([.ref hBO, .int v1]) ++ List.replicate (6 - (lg_sl ([.ref hBO, .int v1])).length) Slot.unset).toArray = ls at hl ⊢
  have hl : lv_has ls 6 [(0, .ref hBO), (1, .int v1)] := hl
  dsimp only [headSpec]
  unfold BO_go at h
  refine lv_aload_n X.1 X.2.1 dX0_go_0 rfl (lv_at hl 0 rfl) ?_
  refine g_get X hP 0 0 6 (v := .long bo_person) rfl rfl inX0 (by decide) fl_X0_50 rfl dX0_go_1 ?_
  refine lv_iload_n X.1 X.2.1 dX0_go_4 rfl (lv_at hl 1 rfl) ?_
  refine g_cl (wr := [cBO hBO bo_width bo_height bo_floor bo_goals bo_live bo_boxes bo_person hBS bo_liveBesideInRow bo_liveBesideInColumn]) X [] [0] (g_rN (As := [.long bo_person, .int v1]) (rest := []) X (c_PB_shifted l G bo_person v1 _ h _) lk_X0_58 rfl rfl ⟨Nat.le_of_ble_eq_true rfl, Nat.le_of_ble_eq_true rfl⟩ hP hD hS [] rfl rfl rfl hl.1 rfl (Nat.le_of_ble_eq_true rfl) dX0_go_5 ⟨Nat.le_of_ble_eq_true rfl, Nat.le_of_ble_eq_true rfl⟩) hP hD hS rfl rfl rfl (by decide) (fun r_1 u H locs h hP hD hS => ?_)
  try dsimp only at h
  replace hP := hP.sub (ws' := [cBO hBO bo_width bo_height bo_floor bo_goals bo_live bo_boxes bo_person hBS bo_liveBesideInRow bo_liveBesideInColumn]) [0] rfl
  replace hD := hD.sub (ws' := [cBO hBO bo_width bo_height bo_floor bo_goals bo_live bo_boxes bo_person hBS bo_liveBesideInRow bo_liveBesideInColumn]) [0] rfl rfl
  refine lv_aload_n X.1 X.2.1 dX0_go_8 rfl (lv_at hl 0 rfl) ?_
  refine g_get X hP 0 0 2 (v := .long bo_floor) rfl rfl inX0 (by decide) fl_X0_36 rfl dX0_go_9 ?_
  refine lv_land X.1 X.2.1 dX0_go_12 ?_
  refine lv_topl (fun v2_2 e_v2_2 => ?_)
  replace h := h v2_2 e_v2_2
  refine lv_lstore_n (lv' := [(2, .long v2_2), (0, .ref hBO), (1, .int v1)]) X.1 X.2.1 dX0_go_13 rfl hl (by decide) rfl (fun ls hl => ?_)
  refine lv_lload_n X.1 X.2.1 dX0_go_14 rfl (lv_at hl 0 rfl) ?_
  refine lv_lconst (v := (0 : Int64)) X.1 X.2.1 dX0_go_15 (by decide) ?_
  refine g_lcmp_ne (tgt := 22) X dX0_go_16 dX0_go_17 (by decide) (fun hc => ?_) (fun hc => ?_)
  · replace h := Eq.mp (if_neg hc) h
    refine lv_lload_n X.1 X.2.1 dX0_go_22 rfl (lv_at hl 0 rfl) ?_
    refine lv_aload_n X.1 X.2.1 dX0_go_23 rfl (lv_at hl 1 rfl) ?_
    refine g_get X hP 0 0 5 (v := .long bo_boxes) rfl rfl inX0 (by decide) fl_X0_46 rfl dX0_go_24 ?_
    refine lv_land X.1 X.2.1 dX0_go_27 ?_
    refine lv_lconst (v := (0 : Int64)) X.1 X.2.1 dX0_go_28 (by decide) ?_
    refine g_lcmp_ne (tgt := 40) X dX0_go_29 dX0_go_30 (by decide) (fun hc => ?_) (fun hc => ?_)
    · replace h := Eq.mp (if_neg hc) h
      refine lv_lload_n X.1 X.2.1 dX0_go_40 rfl (lv_at hl 0 rfl) ?_
      refine lv_iload_n X.1 X.2.1 dX0_go_41 rfl (lv_at hl 2 rfl) ?_
      refine g_cl (wr := [cBO hBO bo_width bo_height bo_floor bo_goals bo_live bo_boxes bo_person hBS bo_liveBesideInRow bo_liveBesideInColumn]) X [] [0] (g_rN (As := [.long v2_2, .int v1]) (rest := []) X (c_PB_shifted l G v2_2 v1 _ h _) lk_X0_58 rfl rfl ⟨Nat.le_of_ble_eq_true rfl, Nat.le_of_ble_eq_true rfl⟩ hP hD hS [] rfl rfl rfl hl.1 rfl (Nat.le_of_ble_eq_true rfl) dX0_go_42 ⟨Nat.le_of_ble_eq_true rfl, Nat.le_of_ble_eq_true rfl⟩) hP hD hS rfl rfl rfl (by decide) (fun r_3 u H locs h hP hD hS => ?_)
      try dsimp only at h
      replace hP := hP.sub (ws' := [cBO hBO bo_width bo_height bo_floor bo_goals bo_live bo_boxes bo_person hBS bo_liveBesideInRow bo_liveBesideInColumn]) [0] rfl
      replace hD := hD.sub (ws' := [cBO hBO bo_width bo_height bo_floor bo_goals bo_live bo_boxes bo_person hBS bo_liveBesideInRow bo_liveBesideInColumn]) [0] rfl rfl
      refine lv_aload_n X.1 X.2.1 dX0_go_45 rfl (lv_at hl 1 rfl) ?_
      refine g_get X hP 0 0 2 (v := .long bo_floor) rfl rfl inX0 (by decide) fl_X0_36 rfl dX0_go_46 ?_
      refine lv_land X.1 X.2.1 dX0_go_49 ?_
      refine lv_aload_n X.1 X.2.1 dX0_go_50 rfl (lv_at hl 1 rfl) ?_
      refine g_get X hP 0 0 5 (v := .long bo_boxes) rfl rfl inX0 (by decide) fl_X0_46 rfl dX0_go_51 ?_
      refine lv_ldc2 (v := (-1 : Int64)) X.1 X.2.1 X.2.2.2.1 (X.2.2.2.2.1 _ cn_X0_34) dX0_go_54 ?_
      refine lv_lxor X.1 X.2.1 dX0_go_57 ?_
      refine lv_land X.1 X.2.1 dX0_go_58 ?_
      refine lv_topl (fun v4_4 e_v4_4 => ?_)
      replace h := h v4_4 e_v4_4
      refine lv_lstore (lv' := [(4, .long v4_4), (2, .long v2_2), (0, .ref hBO), (1, .int v1)]) X.1 X.2.1 dX0_go_59 hl (by decide) rfl (fun ls hl => ?_)
      refine lv_lload X.1 X.2.1 dX0_go_61 (lv_at hl 0 rfl) ?_
      refine lv_lconst (v := (0 : Int64)) X.1 X.2.1 dX0_go_63 (by decide) ?_
      refine g_lcmp_ne (tgt := 70) X dX0_go_64 dX0_go_65 (by decide) (fun hc => ?_) (fun hc => ?_)
      · replace h := Eq.mp (if_neg hc) h
        refine lv_aload_n X.1 X.2.1 dX0_go_70 rfl (lv_at hl 2 rfl) ?_
        refine lv_dup X.1 X.2.1 dX0_go_71 rfl ?_
        refine g_get X hP 0 0 5 (v := .long bo_boxes) rfl rfl inX0 (by decide) fl_X0_46 rfl dX0_go_72 ?_
        refine lv_lload_n X.1 X.2.1 dX0_go_75 rfl (lv_at hl 1 rfl) ?_
        refine lv_lload X.1 X.2.1 dX0_go_76 (lv_at hl 0 rfl) ?_
        refine lv_lor X.1 X.2.1 dX0_go_78 ?_
        refine lv_lxor X.1 X.2.1 dX0_go_79 ?_
        refine lv_topl (fun bo_boxes_5 e_bo_boxes_5 => ?_)
        replace h := h bo_boxes_5 e_bo_boxes_5
        refine g_put X hP hD hS 0 0 5 (v := .long bo_boxes_5) rfl rfl inX0 tyX0 tyX0_ok nmX0 (by decide) fl_X0_46 rfl rfl rfl rfl (Nat.le_of_ble_eq_true rfl) dX0_go_80 (fun H locs hP hD hS => ?_)
        replace hP : va_P G.1 gCl [cBO hBO bo_width bo_height bo_floor bo_goals bo_live bo_boxes_5 bo_person hBS bo_liveBesideInRow bo_liveBesideInColumn] H := hP
        replace hD : va_D A [cBO hBO bo_width bo_height bo_floor bo_goals bo_live bo_boxes_5 bo_person hBS bo_liveBesideInRow bo_liveBesideInColumn] := hD
        refine lv_aload_n X.1 X.2.1 dX0_go_83 rfl (lv_at hl 2 rfl) ?_
        refine lv_lload_n X.1 X.2.1 dX0_go_84 rfl (lv_at hl 1 rfl) ?_
        refine g_put X hP hD hS 0 0 6 (v := .long v2_2) rfl rfl inX0 tyX0 tyX0_ok nmX0 (by decide) fl_X0_50 rfl rfl rfl rfl (Nat.le_of_ble_eq_true rfl) dX0_go_85 (fun H locs hP hD hS => ?_)
        replace hP : va_P G.1 gCl [cBO hBO bo_width bo_height bo_floor bo_goals bo_live bo_boxes_5 v2_2 hBS bo_liveBesideInRow bo_liveBesideInColumn] H := hP
        replace hD : va_D A [cBO hBO bo_width bo_height bo_floor bo_goals bo_live bo_boxes_5 v2_2 hBS bo_liveBesideInRow bo_liveBesideInColumn] := hD
        refine lv_iconst (v := (2 : Int32)) X.1 X.2.1 dX0_go_88 (by decide) ?_
        exact g_iret X (bo_boxes_5, v2_2) h hP hD hS dX0_go_89
      · replace h := Eq.mp (if_pos hc) h
        refine lv_iconst (v := (0 : Int32)) X.1 X.2.1 dX0_go_68 (by decide) ?_
        exact g_iret X (bo_boxes, bo_person) h hP hD hS dX0_go_69
    · replace h := Eq.mp (if_pos hc) h
      refine lv_aload_n X.1 X.2.1 dX0_go_33 rfl (lv_at hl 1 rfl) ?_
      refine lv_lload_n X.1 X.2.1 dX0_go_34 rfl (lv_at hl 0 rfl) ?_
      refine g_put X hP hD hS 0 0 6 (v := .long v2_2) rfl rfl inX0 tyX0 tyX0_ok nmX0 (by decide) fl_X0_50 rfl rfl rfl rfl (Nat.le_of_ble_eq_true rfl) dX0_go_35 (fun H locs hP hD hS => ?_)
      replace hP : va_P G.1 gCl [cBO hBO bo_width bo_height bo_floor bo_goals bo_live bo_boxes v2_2 hBS bo_liveBesideInRow bo_liveBesideInColumn] H := hP
      replace hD : va_D A [cBO hBO bo_width bo_height bo_floor bo_goals bo_live bo_boxes v2_2 hBS bo_liveBesideInRow bo_liveBesideInColumn] := hD
      refine lv_iconst (v := (1 : Int32)) X.1 X.2.1 dX0_go_38 (by decide) ?_
      exact g_iret X (bo_boxes, v2_2) h hP hD hS dX0_go_39
  · replace h := Eq.mp (if_pos hc) h
    refine lv_iconst (v := (0 : Int32)) X.1 X.2.1 dX0_go_20 (by decide) ?_
    exact g_iret X (bo_boxes, bo_person) h hP hD hS dX0_go_21
abbrev rm_BO_goBack : Room := { frames := 1, cells := 0, slots := 0, locals := 22 }
set_option maxHeartbeats 4000000 in
set_option maxRecDepth 100000 in
theorem s_BO_goBack_26 {p : Program} {l : Launch} {e : Env} {s : State} {m : MethodId} {args : Array Value} {below : List Frame} {meth : Method} {c : Code} {G : gEnv} {A : Nat → Prop} {hBO : Nat} {hBS : Nat} {bo_width : Int32} {bo_height : Int32} {bo_floor : Int64} {bo_goals : Int64} {bo_live : Int64} {bo_liveBesideInRow : Int64} {bo_liveBesideInColumn : Int64} {post : Int64 → Int64 → Prop} (X : gX p m meth c cX0_goBack 3 RX0 none s args G A)  : ∀ (bo_boxes : Int64) (bo_person : Int64) (v1 : Int32) (H : Heap) (locs : List Loc) (ls : Array Slot), BO_goBack_26 post bo_boxes bo_person v1 → va_P G.1 gCl [cBO hBO bo_width bo_height bo_floor bo_goals bo_live bo_boxes bo_person hBS bo_liveBesideInRow bo_liveBesideInColumn] H → va_D A [cBO hBO bo_width bo_height bo_floor bo_goals bo_live bo_boxes bo_person hBS bo_liveBesideInRow bo_liveBesideInColumn] → va_S A s.heap H locs → lv_has ls 3 [(0, .ref hBO), (1, .int v1)] → W p l e rm_BO_goBack s m args below meth c H locs 0 0 (MQ below (gQv G (fun (u : Int64 × Int64) => post u.1 u.2) (fun (u : Int64 × Int64) => [cBO hBO bo_width bo_height bo_floor bo_goals bo_live u.1 u.2 hBS bo_liveBesideInRow bo_liveBesideInColumn]) A) args s 0 0 A) (F0 m 26 ls []) := by
  intro bo_boxes bo_person v1 H locs ls h hP hD hS hl
  unfold BO_goBack_26 at h
  refine lv_aload_n X.1 X.2.1 dX0_goBack_26 rfl (lv_at hl 0 rfl) ?_
  refine lv_aload_n X.1 X.2.1 dX0_goBack_27 rfl (lv_at hl 0 rfl) ?_
  refine g_get X hP 0 0 6 (v := .long bo_person) rfl rfl inX0 (by decide) fl_X0_50 rfl dX0_goBack_28 ?_
  refine lv_iload_n X.1 X.2.1 dX0_goBack_31 rfl (lv_at hl 1 rfl) ?_
  refine g_ci (wr := [cBO hBO bo_width bo_height bo_floor bo_goals bo_live bo_boxes bo_person hBS bo_liveBesideInRow bo_liveBesideInColumn]) X [] [0] (g_rN (As := [.int v1]) (rest := [.long bo_person, .ref hBO]) X (c_PB_against l G v1 _ h _) lk_X0_72 rfl rfl ⟨Nat.le_of_ble_eq_true rfl, Nat.le_of_ble_eq_true rfl⟩ hP hD hS [] rfl rfl rfl hl.1 rfl (Nat.le_of_ble_eq_true rfl) dX0_goBack_32 ⟨Nat.le_of_ble_eq_true rfl, Nat.le_of_ble_eq_true rfl⟩) hP hD hS rfl rfl rfl (by decide) (fun r_1 u H locs h hP hD hS => ?_)
  try dsimp only at h
  replace hP := hP.sub (ws' := [cBO hBO bo_width bo_height bo_floor bo_goals bo_live bo_boxes bo_person hBS bo_liveBesideInRow bo_liveBesideInColumn]) [0] rfl
  replace hD := hD.sub (ws' := [cBO hBO bo_width bo_height bo_floor bo_goals bo_live bo_boxes bo_person hBS bo_liveBesideInRow bo_liveBesideInColumn]) [0] rfl rfl
  refine g_cl (wr := [cBO hBO bo_width bo_height bo_floor bo_goals bo_live bo_boxes bo_person hBS bo_liveBesideInRow bo_liveBesideInColumn]) X [] [0] (g_rN (As := [.long bo_person, .int r_1]) (rest := [.ref hBO]) X (c_PB_shifted l G bo_person r_1 _ h _) lk_X0_58 rfl rfl ⟨Nat.le_of_ble_eq_true rfl, Nat.le_of_ble_eq_true rfl⟩ hP hD hS [] rfl rfl rfl hl.1 rfl (Nat.le_of_ble_eq_true rfl) dX0_goBack_35 ⟨Nat.le_of_ble_eq_true rfl, Nat.le_of_ble_eq_true rfl⟩) hP hD hS rfl rfl rfl (by decide) (fun r_2 u H locs h hP hD hS => ?_)
  try dsimp only at h
  replace hP := hP.sub (ws' := [cBO hBO bo_width bo_height bo_floor bo_goals bo_live bo_boxes bo_person hBS bo_liveBesideInRow bo_liveBesideInColumn]) [0] rfl
  replace hD := hD.sub (ws' := [cBO hBO bo_width bo_height bo_floor bo_goals bo_live bo_boxes bo_person hBS bo_liveBesideInRow bo_liveBesideInColumn]) [0] rfl rfl
  refine g_put X hP hD hS 0 0 6 (v := .long r_2) rfl rfl inX0 tyX0 tyX0_ok nmX0 (by decide) fl_X0_50 rfl rfl rfl rfl (Nat.le_of_ble_eq_true rfl) dX0_goBack_38 (fun H locs hP hD hS => ?_)
  replace hP : va_P G.1 gCl [cBO hBO bo_width bo_height bo_floor bo_goals bo_live bo_boxes r_2 hBS bo_liveBesideInRow bo_liveBesideInColumn] H := hP
  replace hD : va_D A [cBO hBO bo_width bo_height bo_floor bo_goals bo_live bo_boxes r_2 hBS bo_liveBesideInRow bo_liveBesideInColumn] := hD
  exact g_vret X (bo_boxes, r_2) h hP hD hS dX0_goBack_41
set_option maxHeartbeats 4000000 in
set_option maxRecDepth 100000 in
theorem c_BO_goBack (l : Launch) (G : gEnv) (hBO : Nat) (hBS : Nat) (bo_width : Int32) (bo_height : Int32) (bo_floor : Int64) (bo_goals : Int64) (bo_live : Int64) (bo_boxes : Int64) (bo_person : Int64) (bo_liveBesideInRow : Int64) (bo_liveBesideInColumn : Int64) (v1 : Int32) (v2 : Int32) (post : Int64 → Int64 → Prop) (h : BO_goBack bo_boxes bo_person v1 v2 post) (sz : Nat) : Met l yX0_goBack (Cond.code yX0_goBack cX0_goBack 3 none :: wAll) (rm_BO_goBack) (gPc G [.ref hBO, .int v1, .int v2] [cBO hBO bo_width bo_height bo_floor bo_goals bo_live bo_boxes bo_person hBS bo_liveBesideInRow bo_liveBesideInColumn] sz) (gQv G (fun (u : Int64 × Int64) => post u.1 u.2) (fun (u : Int64 × Int64) => [cBO hBO bo_width bo_height bo_floor bo_goals bo_live u.1 u.2 hBS bo_liveBesideInRow bo_liveBesideInColumn]) (va_A [cBO hBO bo_width bo_height bo_floor bo_goals bo_live bo_boxes bo_person hBS bo_liveBesideInRow bo_liveBesideInColumn] sz)) 0 0 (va_A [cBO hBO bo_width bo_height bo_floor bo_goals bo_live bo_boxes bo_person hBS bo_liveBesideInRow bo_liveBesideInColumn] sz) := by
  refine Met.ofW (cc := cX0_goBack) (maxL := 3) (ret := none) (by decide) rfl ?_
  intro p e s m args below meth c s₁ B hml hv
  obtain ⟨rfl, hsz, hP, hK, hD0⟩ := hv
  subst hsz
  have X := gX.ofB (ws := [cBO hBO bo_width bo_height bo_floor bo_goals bo_live bo_boxes bo_person hBS bo_liveBesideInRow bo_liveBesideInColumn]) B hml hK hD0
  have hD := hD0.self (sz := s.heap.size)
  generalize hAe : va_A [cBO hBO bo_width bo_height bo_floor bo_goals bo_live bo_boxes bo_person hBS bo_liveBesideInRow bo_liveBesideInColumn] s.heap.size = A at X hD ⊢
  have hS : va_S A s.heap s.heap [] := va_S.rf
  have hl := lv_entry ([.ref hBO, .int v1, .int v2]) (n := 3) (Nat.le_of_ble_eq_true rfl)
  rw [lg_entry_eq]
  generalize (lg_sl ([.ref hBO, .int v1, .int v2]) ++ List.replicate (3 - (lg_sl ([.ref hBO, .int v1, .int v2])).length) Slot.unset).toArray = ls at hl ⊢
  have hl : lv_has ls 3 [(0, .ref hBO), (1, .int v1), (2, .int v2)] := hl
  dsimp only [headSpec]
  unfold BO_goBack at h
  refine lv_iload_n X.1 X.2.1 dX0_goBack_0 rfl (lv_at hl 2 rfl) ?_
  refine lv_if_eq (tgt := 26) X.1 X.2.1 dX0_goBack_1 (by decide) (fun hc => ?_) (fun hc => ?_)
  · replace h := Eq.mp (if_pos hc) h
    exact s_BO_goBack_26 X  bo_boxes bo_person v1 _ _ _ h hP hD hS (lv_sub hl [0, 1] rfl)
  · replace h := Eq.mp (if_neg hc) h
    refine lv_aload_n X.1 X.2.1 dX0_goBack_4 rfl (lv_at hl 0 rfl) ?_
    refine lv_dup X.1 X.2.1 dX0_goBack_5 rfl ?_
    refine g_get X hP 0 0 5 (v := .long bo_boxes) rfl rfl inX0 (by decide) fl_X0_46 rfl dX0_goBack_6 ?_
    refine lv_aload_n X.1 X.2.1 dX0_goBack_9 rfl (lv_at hl 0 rfl) ?_
    refine g_get X hP 0 0 6 (v := .long bo_person) rfl rfl inX0 (by decide) fl_X0_50 rfl dX0_goBack_10 ?_
    refine lv_aload_n X.1 X.2.1 dX0_goBack_13 rfl (lv_at hl 0 rfl) ?_
    refine g_get X hP 0 0 6 (v := .long bo_person) rfl rfl inX0 (by decide) fl_X0_50 rfl dX0_goBack_14 ?_
    refine lv_iload_n X.1 X.2.1 dX0_goBack_17 rfl (lv_at hl 1 rfl) ?_
    refine g_cl (wr := [cBO hBO bo_width bo_height bo_floor bo_goals bo_live bo_boxes bo_person hBS bo_liveBesideInRow bo_liveBesideInColumn]) X [] [0] (g_rN (As := [.long bo_person, .int v1]) (rest := [.long bo_person, .long bo_boxes, .ref hBO]) X (c_PB_shifted l G bo_person v1 _ h _) lk_X0_58 rfl rfl ⟨Nat.le_of_ble_eq_true rfl, Nat.le_of_ble_eq_true rfl⟩ hP hD hS [] rfl rfl rfl hl.1 rfl (Nat.le_of_ble_eq_true rfl) dX0_goBack_18 ⟨Nat.le_of_ble_eq_true rfl, Nat.le_of_ble_eq_true rfl⟩) hP hD hS rfl rfl rfl (by decide) (fun r_1 u H locs h hP hD hS => ?_)
    try dsimp only at h
    replace hP := hP.sub (ws' := [cBO hBO bo_width bo_height bo_floor bo_goals bo_live bo_boxes bo_person hBS bo_liveBesideInRow bo_liveBesideInColumn]) [0] rfl
    replace hD := hD.sub (ws' := [cBO hBO bo_width bo_height bo_floor bo_goals bo_live bo_boxes bo_person hBS bo_liveBesideInRow bo_liveBesideInColumn]) [0] rfl rfl
    refine lv_lor X.1 X.2.1 dX0_goBack_21 ?_
    refine lv_lxor X.1 X.2.1 dX0_goBack_22 ?_
    refine lv_topl (fun bo_boxes_2 e_bo_boxes_2 => ?_)
    replace h := h bo_boxes_2 e_bo_boxes_2
    refine g_put X hP hD hS 0 0 5 (v := .long bo_boxes_2) rfl rfl inX0 tyX0 tyX0_ok nmX0 (by decide) fl_X0_46 rfl rfl rfl rfl (Nat.le_of_ble_eq_true rfl) dX0_goBack_23 (fun H locs hP hD hS => ?_)
    replace hP : va_P G.1 gCl [cBO hBO bo_width bo_height bo_floor bo_goals bo_live bo_boxes_2 bo_person hBS bo_liveBesideInRow bo_liveBesideInColumn] H := hP
    replace hD : va_D A [cBO hBO bo_width bo_height bo_floor bo_goals bo_live bo_boxes_2 bo_person hBS bo_liveBesideInRow bo_liveBesideInColumn] := hD
    exact s_BO_goBack_26 X  bo_boxes_2 bo_person v1 _ _ _ h hP hD hS (lv_sub hl [0, 1] rfl)
abbrev rm_BO_cellOf : Room := { frames := 2, cells := 0, slots := 0, locals := 42 }
set_option maxHeartbeats 4000000 in
set_option maxRecDepth 100000 in
theorem c_BO_cellOf (l : Launch) (G : gEnv) (hBO : Nat) (hBS : Nat) (bo_width : Int32) (bo_height : Int32) (bo_floor : Int64) (bo_goals : Int64) (bo_live : Int64) (bo_boxes : Int64) (bo_person : Int64) (bo_liveBesideInRow : Int64) (bo_liveBesideInColumn : Int64) (v1 : Int64) (post : Int32 → Prop) (h : BO_cellOf bo_width v1 post) (sz : Nat) : Met l yX0_cellOf (Cond.code yX0_cellOf cX0_cellOf 4 (some .int) :: wAll) (rm_BO_cellOf) (gPc G [.ref hBO, .long v1] [cBO hBO bo_width bo_height bo_floor bo_goals bo_live bo_boxes bo_person hBS bo_liveBesideInRow bo_liveBesideInColumn] sz) (gQi G (fun (r : Int32) (u : Unit) => post r ) (fun (u : Unit) => [cBO hBO bo_width bo_height bo_floor bo_goals bo_live bo_boxes bo_person hBS bo_liveBesideInRow bo_liveBesideInColumn]) (va_A [cBO hBO bo_width bo_height bo_floor bo_goals bo_live bo_boxes bo_person hBS bo_liveBesideInRow bo_liveBesideInColumn] sz)) 0 0 (va_A [cBO hBO bo_width bo_height bo_floor bo_goals bo_live bo_boxes bo_person hBS bo_liveBesideInRow bo_liveBesideInColumn] sz) := by
  refine Met.ofW (cc := cX0_cellOf) (maxL := 4) (ret := (some .int)) (by decide) rfl ?_
  intro p e s m args below meth c s₁ B hml hv
  obtain ⟨rfl, hsz, hP, hK, hD0⟩ := hv
  subst hsz
  have X := gX.ofB (ws := [cBO hBO bo_width bo_height bo_floor bo_goals bo_live bo_boxes bo_person hBS bo_liveBesideInRow bo_liveBesideInColumn]) B hml hK hD0
  have hD := hD0.self (sz := s.heap.size)
  generalize hAe : va_A [cBO hBO bo_width bo_height bo_floor bo_goals bo_live bo_boxes bo_person hBS bo_liveBesideInRow bo_liveBesideInColumn] s.heap.size = A at X hD ⊢
  have hS : va_S A s.heap s.heap [] := va_S.rf
  have hl := lv_entry ([.ref hBO, .long v1]) (n := 4) (Nat.le_of_ble_eq_true rfl)
  rw [lg_entry_eq]
  generalize (lg_sl ([.ref hBO, .long v1]) ++ List.replicate (4 - (lg_sl ([.ref hBO, .long v1])).length) Slot.unset).toArray = ls at hl ⊢
  have hl : lv_has ls 4 [(0, .ref hBO), (1, .long v1)] := hl
  dsimp only [headSpec]
  unfold BO_cellOf at h
  refine lv_lload_n X.1 X.2.1 dX0_cellOf_0 rfl (lv_at hl 1 rfl) ?_
  refine g_ci (wr := [cBO hBO bo_width bo_height bo_floor bo_goals bo_live bo_boxes bo_person hBS bo_liveBesideInRow bo_liveBesideInColumn]) X [] [0] (g_rN (As := [.long v1]) (rest := []) X (c_PB_spotOf l G v1 _ h _) lk_X0_68 rfl rfl ⟨Nat.le_of_ble_eq_true rfl, Nat.le_of_ble_eq_true rfl⟩ hP hD hS [] rfl rfl rfl hl.1 rfl (Nat.le_of_ble_eq_true rfl) dX0_cellOf_1 ⟨Nat.le_of_ble_eq_true rfl, Nat.le_of_ble_eq_true rfl⟩) hP hD hS rfl rfl rfl (by decide) (fun r_1 u H locs h hP hD hS => ?_)
  try dsimp only at h
  replace hP := hP.sub (ws' := [cBO hBO bo_width bo_height bo_floor bo_goals bo_live bo_boxes bo_person hBS bo_liveBesideInRow bo_liveBesideInColumn]) [0] rfl
  replace hD := hD.sub (ws' := [cBO hBO bo_width bo_height bo_floor bo_goals bo_live bo_boxes bo_person hBS bo_liveBesideInRow bo_liveBesideInColumn]) [0] rfl rfl
  refine lv_istore_n (lv' := [(3, .int r_1), (0, .ref hBO), (1, .long v1)]) X.1 X.2.1 dX0_cellOf_4 rfl hl (by decide) rfl (fun ls hl => ?_)
  refine lv_aload_n X.1 X.2.1 dX0_cellOf_5 rfl (lv_at hl 1 rfl) ?_
  refine g_get X hP 0 0 0 (v := .int bo_width) rfl rfl inX0 (by decide) fl_X0_21 rfl dX0_cellOf_6 ?_
  refine lv_iload_n X.1 X.2.1 dX0_cellOf_9 rfl (lv_at hl 0 rfl) ?_
  refine lv_bipush (v := (8 : Int32)) X.1 X.2.1 dX0_cellOf_10 (by decide) ?_
  refine lv_idiv X.1 X.2.1 dX0_cellOf_12 (by decide) ?_
  refine lv_imul X.1 X.2.1 dX0_cellOf_13 ?_
  refine lv_iload_n X.1 X.2.1 dX0_cellOf_14 rfl (lv_at hl 0 rfl) ?_
  refine lv_bipush (v := (8 : Int32)) X.1 X.2.1 dX0_cellOf_15 (by decide) ?_
  refine lv_irem X.1 X.2.1 dX0_cellOf_17 (by decide) ?_
  refine lv_iadd X.1 X.2.1 dX0_cellOf_18 ?_
  exact g_iret X () h hP hD hS dX0_cellOf_19
abbrev rm_BO_isDone : Room := { frames := 0, cells := 0, slots := 0, locals := 0 }
set_option maxHeartbeats 4000000 in
set_option maxRecDepth 100000 in
theorem c_BO_isDone (l : Launch) (G : gEnv) (hBO : Nat) (hBS : Nat) (bo_width : Int32) (bo_height : Int32) (bo_floor : Int64) (bo_goals : Int64) (bo_live : Int64) (bo_boxes : Int64) (bo_person : Int64) (bo_liveBesideInRow : Int64) (bo_liveBesideInColumn : Int64) (v1 : Int64) (post : Int32 → Prop) (h : BO_isDone bo_goals v1 post) (sz : Nat) : Met l yX0_isDone (Cond.code yX0_isDone cX0_isDone 3 (some .boolean) :: wAll) (rm_BO_isDone) (gPc G [.ref hBO, .long v1] [cBO hBO bo_width bo_height bo_floor bo_goals bo_live bo_boxes bo_person hBS bo_liveBesideInRow bo_liveBesideInColumn] sz) (gQi G (fun (r : Int32) (u : Unit) => post r ) (fun (u : Unit) => [cBO hBO bo_width bo_height bo_floor bo_goals bo_live bo_boxes bo_person hBS bo_liveBesideInRow bo_liveBesideInColumn]) (va_A [cBO hBO bo_width bo_height bo_floor bo_goals bo_live bo_boxes bo_person hBS bo_liveBesideInRow bo_liveBesideInColumn] sz)) 0 0 (va_A [cBO hBO bo_width bo_height bo_floor bo_goals bo_live bo_boxes bo_person hBS bo_liveBesideInRow bo_liveBesideInColumn] sz) := by
  refine Met.ofW (cc := cX0_isDone) (maxL := 3) (ret := (some .boolean)) (by decide) rfl ?_
  intro p e s m args below meth c s₁ B hml hv
  obtain ⟨rfl, hsz, hP, hK, hD0⟩ := hv
  subst hsz
  have X := gX.ofB (ws := [cBO hBO bo_width bo_height bo_floor bo_goals bo_live bo_boxes bo_person hBS bo_liveBesideInRow bo_liveBesideInColumn]) B hml hK hD0
  have hD := hD0.self (sz := s.heap.size)
  generalize hAe : va_A [cBO hBO bo_width bo_height bo_floor bo_goals bo_live bo_boxes bo_person hBS bo_liveBesideInRow bo_liveBesideInColumn] s.heap.size = A at X hD ⊢
  have hS : va_S A s.heap s.heap [] := va_S.rf
  have hl := lv_entry ([.ref hBO, .long v1]) (n := 3) (Nat.le_of_ble_eq_true rfl)
  rw [lg_entry_eq]
  generalize (lg_sl ([.ref hBO, .long v1]) ++ List.replicate (3 - (lg_sl ([.ref hBO, .long v1])).length) Slot.unset).toArray = ls at hl ⊢
  have hl : lv_has ls 3 [(0, .ref hBO), (1, .long v1)] := hl
  dsimp only [headSpec]
  unfold BO_isDone at h
  refine lv_aload_n X.1 X.2.1 dX0_isDone_0 rfl (lv_at hl 0 rfl) ?_
  refine g_get X hP 0 0 3 (v := .long bo_goals) rfl rfl inX0 (by decide) fl_X0_42 rfl dX0_isDone_1 ?_
  refine lv_lload_n X.1 X.2.1 dX0_isDone_4 rfl (lv_at hl 1 rfl) ?_
  refine lv_ldc2 (v := (-1 : Int64)) X.1 X.2.1 X.2.2.2.1 (X.2.2.2.2.1 _ cn_X0_34) dX0_isDone_5 ?_
  refine lv_lxor X.1 X.2.1 dX0_isDone_8 ?_
  refine lv_land X.1 X.2.1 dX0_isDone_9 ?_
  refine lv_lconst (v := (0 : Int64)) X.1 X.2.1 dX0_isDone_10 (by decide) ?_
  refine g_lcmp_ne (tgt := 19) X dX0_isDone_11 dX0_isDone_12 (by decide) (fun hc => ?_) (fun hc => ?_)
  · replace h := Eq.mp (if_neg hc) h
    refine lv_iconst (v := (0 : Int32)) X.1 X.2.1 dX0_isDone_19 (by decide) ?_
    exact g_zret X (by decide) () h hP hD hS dX0_isDone_20
  · replace h := Eq.mp (if_pos hc) h
    refine lv_iconst (v := (1 : Int32)) X.1 X.2.1 dX0_isDone_15 (by decide) ?_
    refine lv_goto (tgt := 20) X.1 X.2.1 dX0_isDone_16 (by decide) ?_
    exact g_zret X (by decide) () h hP hD hS dX0_isDone_20
abbrev rm_BO_signAt : Room := { frames := 0, cells := 0, slots := 0, locals := 0 }
set_option maxHeartbeats 4000000 in
set_option maxRecDepth 100000 in
theorem s_BO_signAt_16 {p : Program} {l : Launch} {e : Env} {s : State} {m : MethodId} {args : Array Value} {below : List Frame} {meth : Method} {c : Code} {G : gEnv} {A : Nat → Prop} {hBO : Nat} {hBS : Nat} {bo_width : Int32} {bo_height : Int32} {bo_live : Int64} {bo_liveBesideInRow : Int64} {bo_liveBesideInColumn : Int64} {bo_floor : Int64} {bo_goals : Int64} {bo_boxes : Int64} {bo_person : Int64} {post : Int32 → Prop} (X : gX p m meth c cX0_signAt 4 RX0 (some .int) s args G A)  : ∀ (v1 : Int64) (t0 : Int32) (H : Heap) (locs : List Loc) (ls : Array Slot), BO_signAt_16 bo_floor bo_goals bo_boxes bo_person post v1 t0 → va_P G.1 gCl [cBO hBO bo_width bo_height bo_floor bo_goals bo_live bo_boxes bo_person hBS bo_liveBesideInRow bo_liveBesideInColumn] H → va_D A [cBO hBO bo_width bo_height bo_floor bo_goals bo_live bo_boxes bo_person hBS bo_liveBesideInRow bo_liveBesideInColumn] → va_S A s.heap H locs → lv_has ls 4 [(0, .ref hBO), (1, .long v1)] → W p l e rm_BO_signAt s m args below meth c H locs 0 0 (MQ below (gQi G (fun (r : Int32) (u : Unit) => post r ) (fun (u : Unit) => [cBO hBO bo_width bo_height bo_floor bo_goals bo_live bo_boxes bo_person hBS bo_liveBesideInRow bo_liveBesideInColumn]) A) args s 0 0 A) (F0 m 16 ls [.int t0]) := by
  intro v1 t0 H locs ls h hP hD hS hl
  unfold BO_signAt_16 at h
  refine lv_istore_n (lv' := [(3, .int t0), (0, .ref hBO), (1, .long v1)]) X.1 X.2.1 dX0_signAt_16 rfl hl (by decide) rfl (fun ls hl => ?_)
  refine lv_lload_n X.1 X.2.1 dX0_signAt_17 rfl (lv_at hl 2 rfl) ?_
  refine lv_aload_n X.1 X.2.1 dX0_signAt_18 rfl (lv_at hl 1 rfl) ?_
  refine g_get X hP 0 0 2 (v := .long bo_floor) rfl rfl inX0 (by decide) fl_X0_36 rfl dX0_signAt_19 ?_
  refine lv_land X.1 X.2.1 dX0_signAt_22 ?_
  refine lv_lconst (v := (0 : Int64)) X.1 X.2.1 dX0_signAt_23 (by decide) ?_
  refine g_lcmp_ne (tgt := 31) X dX0_signAt_24 dX0_signAt_25 (by decide) (fun hc => ?_) (fun hc => ?_)
  · replace h := Eq.mp (if_neg hc) h
    refine lv_lload_n X.1 X.2.1 dX0_signAt_31 rfl (lv_at hl 2 rfl) ?_
    refine lv_aload_n X.1 X.2.1 dX0_signAt_32 rfl (lv_at hl 1 rfl) ?_
    refine g_get X hP 0 0 5 (v := .long bo_boxes) rfl rfl inX0 (by decide) fl_X0_46 rfl dX0_signAt_33 ?_
    refine lv_land X.1 X.2.1 dX0_signAt_36 ?_
    refine lv_lconst (v := (0 : Int64)) X.1 X.2.1 dX0_signAt_37 (by decide) ?_
    refine g_lcmp_eq (tgt := 54) X dX0_signAt_38 dX0_signAt_39 (by decide) (fun hc => ?_) (fun hc => ?_)
    · replace h := Eq.mp (if_pos hc) h
      refine lv_lload_n X.1 X.2.1 dX0_signAt_54 rfl (lv_at hl 2 rfl) ?_
      refine lv_aload_n X.1 X.2.1 dX0_signAt_55 rfl (lv_at hl 1 rfl) ?_
      refine g_get X hP 0 0 6 (v := .long bo_person) rfl rfl inX0 (by decide) fl_X0_50 rfl dX0_signAt_56 ?_
      refine lv_land X.1 X.2.1 dX0_signAt_59 ?_
      refine lv_lconst (v := (0 : Int64)) X.1 X.2.1 dX0_signAt_60 (by decide) ?_
      refine g_lcmp_eq (tgt := 77) X dX0_signAt_61 dX0_signAt_62 (by decide) (fun hc => ?_) (fun hc => ?_)
      · replace h := Eq.mp (if_pos hc) h
        refine lv_iload_n X.1 X.2.1 dX0_signAt_77 rfl (lv_at hl 0 rfl) ?_
        refine lv_if_eq (tgt := 86) X.1 X.2.1 dX0_signAt_78 (by decide) (fun hc => ?_) (fun hc => ?_)
        · replace h := Eq.mp (if_pos hc) h
          refine lv_bipush (v := (32 : Int32)) X.1 X.2.1 dX0_signAt_86 (by decide) ?_
          exact g_iret X () h hP hD hS dX0_signAt_88
        · replace h := Eq.mp (if_neg hc) h
          refine lv_bipush (v := (46 : Int32)) X.1 X.2.1 dX0_signAt_81 (by decide) ?_
          refine lv_goto (tgt := 88) X.1 X.2.1 dX0_signAt_83 (by decide) ?_
          exact g_iret X () h hP hD hS dX0_signAt_88
      · replace h := Eq.mp (if_neg hc) h
        refine lv_iload_n X.1 X.2.1 dX0_signAt_65 rfl (lv_at hl 0 rfl) ?_
        refine lv_if_eq (tgt := 74) X.1 X.2.1 dX0_signAt_66 (by decide) (fun hc => ?_) (fun hc => ?_)
        · replace h := Eq.mp (if_pos hc) h
          refine lv_bipush (v := (64 : Int32)) X.1 X.2.1 dX0_signAt_74 (by decide) ?_
          exact g_iret X () h hP hD hS dX0_signAt_76
        · replace h := Eq.mp (if_neg hc) h
          refine lv_bipush (v := (43 : Int32)) X.1 X.2.1 dX0_signAt_69 (by decide) ?_
          refine lv_goto (tgt := 76) X.1 X.2.1 dX0_signAt_71 (by decide) ?_
          exact g_iret X () h hP hD hS dX0_signAt_76
    · replace h := Eq.mp (if_neg hc) h
      refine lv_iload_n X.1 X.2.1 dX0_signAt_42 rfl (lv_at hl 0 rfl) ?_
      refine lv_if_eq (tgt := 51) X.1 X.2.1 dX0_signAt_43 (by decide) (fun hc => ?_) (fun hc => ?_)
      · replace h := Eq.mp (if_pos hc) h
        refine lv_bipush (v := (36 : Int32)) X.1 X.2.1 dX0_signAt_51 (by decide) ?_
        exact g_iret X () h hP hD hS dX0_signAt_53
      · replace h := Eq.mp (if_neg hc) h
        refine lv_bipush (v := (42 : Int32)) X.1 X.2.1 dX0_signAt_46 (by decide) ?_
        refine lv_goto (tgt := 53) X.1 X.2.1 dX0_signAt_48 (by decide) ?_
        exact g_iret X () h hP hD hS dX0_signAt_53
  · replace h := Eq.mp (if_pos hc) h
    refine lv_bipush (v := (35 : Int32)) X.1 X.2.1 dX0_signAt_28 (by decide) ?_
    exact g_iret X () h hP hD hS dX0_signAt_30
set_option maxHeartbeats 4000000 in
set_option maxRecDepth 100000 in
theorem c_BO_signAt (l : Launch) (G : gEnv) (hBO : Nat) (hBS : Nat) (bo_width : Int32) (bo_height : Int32) (bo_floor : Int64) (bo_goals : Int64) (bo_live : Int64) (bo_boxes : Int64) (bo_person : Int64) (bo_liveBesideInRow : Int64) (bo_liveBesideInColumn : Int64) (v1 : Int64) (post : Int32 → Prop) (h : BO_signAt bo_floor bo_goals bo_boxes bo_person v1 post) (sz : Nat) : Met l yX0_signAt (Cond.code yX0_signAt cX0_signAt 4 (some .int) :: wAll) (rm_BO_signAt) (gPc G [.ref hBO, .long v1] [cBO hBO bo_width bo_height bo_floor bo_goals bo_live bo_boxes bo_person hBS bo_liveBesideInRow bo_liveBesideInColumn] sz) (gQi G (fun (r : Int32) (u : Unit) => post r ) (fun (u : Unit) => [cBO hBO bo_width bo_height bo_floor bo_goals bo_live bo_boxes bo_person hBS bo_liveBesideInRow bo_liveBesideInColumn]) (va_A [cBO hBO bo_width bo_height bo_floor bo_goals bo_live bo_boxes bo_person hBS bo_liveBesideInRow bo_liveBesideInColumn] sz)) 0 0 (va_A [cBO hBO bo_width bo_height bo_floor bo_goals bo_live bo_boxes bo_person hBS bo_liveBesideInRow bo_liveBesideInColumn] sz) := by
  refine Met.ofW (cc := cX0_signAt) (maxL := 4) (ret := (some .int)) (by decide) rfl ?_
  intro p e s m args below meth c s₁ B hml hv
  obtain ⟨rfl, hsz, hP, hK, hD0⟩ := hv
  subst hsz
  have X := gX.ofB (ws := [cBO hBO bo_width bo_height bo_floor bo_goals bo_live bo_boxes bo_person hBS bo_liveBesideInRow bo_liveBesideInColumn]) B hml hK hD0
  have hD := hD0.self (sz := s.heap.size)
  generalize hAe : va_A [cBO hBO bo_width bo_height bo_floor bo_goals bo_live bo_boxes bo_person hBS bo_liveBesideInRow bo_liveBesideInColumn] s.heap.size = A at X hD ⊢
  have hS : va_S A s.heap s.heap [] := va_S.rf
  have hl := lv_entry ([.ref hBO, .long v1]) (n := 4) (Nat.le_of_ble_eq_true rfl)
  rw [lg_entry_eq]
  generalize (lg_sl ([.ref hBO, .long v1]) ++ List.replicate (4 - (lg_sl ([.ref hBO, .long v1])).length) Slot.unset).toArray = ls at hl ⊢
  have hl : lv_has ls 4 [(0, .ref hBO), (1, .long v1)] := hl
  dsimp only [headSpec]
  unfold BO_signAt at h
  refine lv_lload_n X.1 X.2.1 dX0_signAt_0 rfl (lv_at hl 1 rfl) ?_
  refine lv_aload_n X.1 X.2.1 dX0_signAt_1 rfl (lv_at hl 0 rfl) ?_
  refine g_get X hP 0 0 3 (v := .long bo_goals) rfl rfl inX0 (by decide) fl_X0_42 rfl dX0_signAt_2 ?_
  refine lv_land X.1 X.2.1 dX0_signAt_5 ?_
  refine lv_lconst (v := (0 : Int64)) X.1 X.2.1 dX0_signAt_6 (by decide) ?_
  refine g_lcmp_eq (tgt := 15) X dX0_signAt_7 dX0_signAt_8 (by decide) (fun hc => ?_) (fun hc => ?_)
  · replace h := Eq.mp (if_pos hc) h
    refine lv_iconst (v := (0 : Int32)) X.1 X.2.1 dX0_signAt_15 (by decide) ?_
    exact s_BO_signAt_16 X  v1 (0 : Int32) _ _ _ h hP hD hS (lv_sub hl [0, 1] rfl)
  · replace h := Eq.mp (if_neg hc) h
    refine lv_iconst (v := (1 : Int32)) X.1 X.2.1 dX0_signAt_11 (by decide) ?_
    refine lv_goto (tgt := 16) X.1 X.2.1 dX0_signAt_12 (by decide) ?_
    exact s_BO_signAt_16 X  v1 (1 : Int32) _ _ _ h hP hD hS (lv_sub hl [0, 1] rfl)
abbrev rm_BO_reachOf : Room := { frames := 1, cells := 0, slots := 0, locals := 22 }
set_option maxHeartbeats 4000000 in
set_option maxRecDepth 100000 in
theorem s_BO_reachOf_32 {p : Program} {l : Launch} {e : Env} {s : State} {m : MethodId} {args : Array Value} {below : List Frame} {meth : Method} {c : Code} {G : gEnv} {A : Nat → Prop} {hBO : Nat} {hBS : Nat} {bo_width : Int32} {bo_height : Int32} {bo_goals : Int64} {bo_live : Int64} {bo_boxes : Int64} {bo_person : Int64} {bo_liveBesideInRow : Int64} {bo_liveBesideInColumn : Int64} {bo_floor : Int64} {k18 : Int64 → Int64 → Int32 → Prop} {post : Int64 → Prop} (X : gX p m meth c cX0_reachOf 13 RX0 (some .long) s args G A) (hk18 : ∀ (v5' : Int64) (v7' : Int64) (v9' : Int32) (H : Heap) (locs : List Loc) (ls : Array Slot), k18 v5' v7' v9' → va_P G.1 gCl [cBO hBO bo_width bo_height bo_floor bo_goals bo_live bo_boxes bo_person hBS bo_liveBesideInRow bo_liveBesideInColumn] H → va_D A [cBO hBO bo_width bo_height bo_floor bo_goals bo_live bo_boxes bo_person hBS bo_liveBesideInRow bo_liveBesideInColumn] → va_S A s.heap H locs → lv_has ls 13 [(0, .ref hBO), (5, .long v5'), (7, .long v7'), (9, .int v9')] → W p l e rm_BO_reachOf s m args below meth c H locs 0 0 (MQ below (gQl G (fun (r : Int64) (u : Unit) => post r ) (fun (u : Unit) => [cBO hBO bo_width bo_height bo_floor bo_goals bo_live bo_boxes bo_person hBS bo_liveBesideInRow bo_liveBesideInColumn]) A) args s 0 0 A) (F0 m 18 ls [])) : ∀ (n : Nat) (v5 : Int64) (v7 : Int64) (v9 : Int32) (v10 : Int64) (v12 : Int32) (H : Heap) (locs : List Loc) (ls : Array Slot), BO_reachOf_32 bo_floor k18 post n v5 v7 v9 v10 v12 → va_P G.1 gCl [cBO hBO bo_width bo_height bo_floor bo_goals bo_live bo_boxes bo_person hBS bo_liveBesideInRow bo_liveBesideInColumn] H → va_D A [cBO hBO bo_width bo_height bo_floor bo_goals bo_live bo_boxes bo_person hBS bo_liveBesideInRow bo_liveBesideInColumn] → va_S A s.heap H locs → lv_has ls 13 [(0, .ref hBO), (5, .long v5), (7, .long v7), (9, .int v9), (10, .long v10), (12, .int v12)] → W p l e rm_BO_reachOf s m args below meth c H locs 0 0 (MQ below (gQl G (fun (r : Int64) (u : Unit) => post r ) (fun (u : Unit) => [cBO hBO bo_width bo_height bo_floor bo_goals bo_live bo_boxes bo_person hBS bo_liveBesideInRow bo_liveBesideInColumn]) A) args s 0 0 A) (F0 m 32 ls []) := by
  intro n
  induction n with
  | zero => intro v5 v7 v9 v10 v12 H locs ls h _ _ _ _; exact h.elim
  | succ n ih =>
    intro v5 v7 v9 v10 v12 H locs ls h hP hD hS hl
    unfold BO_reachOf_32 at h
    refine lv_iload X.1 X.2.1 dX0_reachOf_32 (lv_at hl 5 rfl) ?_
    refine lv_iconst (v := (4 : Int32)) X.1 X.2.1 dX0_reachOf_34 (by decide) ?_
    refine lv_icmp_ge (tgt := 59) X.1 X.2.1 dX0_reachOf_35 (by decide) (fun hc => ?_) (fun hc => ?_)
    · replace h := Eq.mp (if_pos hc) h
      refine lv_lload X.1 X.2.1 dX0_reachOf_59 (lv_at hl 4 rfl) ?_
      refine lv_lload X.1 X.2.1 dX0_reachOf_61 (lv_at hl 2 rfl) ?_
      refine g_lcmp_ne (tgt := 70) X dX0_reachOf_63 dX0_reachOf_64 (by decide) (fun hc => ?_) (fun hc => ?_)
      · replace h := Eq.mp (if_neg hc) h
        refine lv_lload X.1 X.2.1 dX0_reachOf_70 (lv_at hl 4 rfl) ?_
        refine lv_lstore (lv' := [(7, .long v10), (0, .ref hBO), (5, .long v5), (9, .int v9), (10, .long v10), (12, .int v12)]) X.1 X.2.1 dX0_reachOf_72 hl (by decide) rfl (fun ls hl => ?_)
        refine lv_iinc (v := (v9 + (1 : Int32))) (lv' := [(9, .int (v9 + (1 : Int32))), (7, .long v10), (0, .ref hBO), (5, .long v5), (10, .long v10), (12, .int v12)]) X.1 X.2.1 dX0_reachOf_74 hl (k := 3) rfl rfl (by decide) rfl (fun ls hl => ?_)
        refine lv_goto (tgt := 18) X.1 X.2.1 dX0_reachOf_77 (by decide) ?_
        exact hk18 v5 v10 (v9 + (1 : Int32)) _ _ _ h hP hD hS (lv_sub hl [2, 3, 1, 0] rfl)
      · replace h := Eq.mp (if_pos hc) h
        refine lv_goto (tgt := 80) X.1 X.2.1 dX0_reachOf_67 (by decide) ?_
        refine lv_lload X.1 X.2.1 dX0_reachOf_80 (lv_at hl 2 rfl) ?_
        exact g_lret X () h hP hD hS dX0_reachOf_82
    · replace h := Eq.mp (if_neg hc) h
      refine lv_lload X.1 X.2.1 dX0_reachOf_38 (lv_at hl 4 rfl) ?_
      refine lv_lload X.1 X.2.1 dX0_reachOf_40 (lv_at hl 4 rfl) ?_
      refine lv_iload X.1 X.2.1 dX0_reachOf_42 (lv_at hl 5 rfl) ?_
      refine g_cl (wr := [cBO hBO bo_width bo_height bo_floor bo_goals bo_live bo_boxes bo_person hBS bo_liveBesideInRow bo_liveBesideInColumn]) X [] [0] (g_rN (As := [.long v10, .int v12]) (rest := [.long v10]) X (c_PB_shifted l G v10 v12 _ h _) lk_X0_58 rfl rfl ⟨Nat.le_of_ble_eq_true rfl, Nat.le_of_ble_eq_true rfl⟩ hP hD hS [] rfl rfl rfl hl.1 rfl (Nat.le_of_ble_eq_true rfl) dX0_reachOf_44 ⟨Nat.le_of_ble_eq_true rfl, Nat.le_of_ble_eq_true rfl⟩) hP hD hS rfl rfl rfl (by decide) (fun r_1 u H locs h hP hD hS => ?_)
      try dsimp only at h
      replace hP := hP.sub (ws' := [cBO hBO bo_width bo_height bo_floor bo_goals bo_live bo_boxes bo_person hBS bo_liveBesideInRow bo_liveBesideInColumn]) [0] rfl
      replace hD := hD.sub (ws' := [cBO hBO bo_width bo_height bo_floor bo_goals bo_live bo_boxes bo_person hBS bo_liveBesideInRow bo_liveBesideInColumn]) [0] rfl rfl
      refine lv_lload X.1 X.2.1 dX0_reachOf_47 (lv_at hl 1 rfl) ?_
      refine lv_land X.1 X.2.1 dX0_reachOf_49 ?_
      refine lv_lor X.1 X.2.1 dX0_reachOf_50 ?_
      refine lv_topl (fun v10_2 e_v10_2 => ?_)
      replace h := h v10_2 e_v10_2
      refine lv_lstore (lv' := [(10, .long v10_2), (0, .ref hBO), (5, .long v5), (7, .long v7), (9, .int v9), (12, .int v12)]) X.1 X.2.1 dX0_reachOf_51 hl (by decide) rfl (fun ls hl => ?_)
      refine lv_iinc (v := (v12 + (1 : Int32))) (lv' := [(12, .int (v12 + (1 : Int32))), (10, .long v10_2), (0, .ref hBO), (5, .long v5), (7, .long v7), (9, .int v9)]) X.1 X.2.1 dX0_reachOf_53 hl (k := 5) rfl rfl (by decide) rfl (fun ls hl => ?_)
      refine lv_goto (tgt := 32) X.1 X.2.1 dX0_reachOf_56 (by decide) ?_
      exact ih v5 v7 v9 v10_2 (v12 + (1 : Int32)) _ _ _ h hP hD hS (lv_sub hl [2, 3, 4, 5, 1, 0] rfl)
set_option maxHeartbeats 4000000 in
set_option maxRecDepth 100000 in
theorem s_BO_reachOf_18 {p : Program} {l : Launch} {e : Env} {s : State} {m : MethodId} {args : Array Value} {below : List Frame} {meth : Method} {c : Code} {G : gEnv} {A : Nat → Prop} {hBO : Nat} {hBS : Nat} {bo_width : Int32} {bo_height : Int32} {bo_goals : Int64} {bo_live : Int64} {bo_boxes : Int64} {bo_person : Int64} {bo_liveBesideInRow : Int64} {bo_liveBesideInColumn : Int64} {bo_floor : Int64} {post : Int64 → Prop} (X : gX p m meth c cX0_reachOf 13 RX0 (some .long) s args G A)  : ∀ (n : Nat) (v5 : Int64) (v7 : Int64) (v9 : Int32) (H : Heap) (locs : List Loc) (ls : Array Slot), BO_reachOf_18 bo_floor post n v5 v7 v9 → va_P G.1 gCl [cBO hBO bo_width bo_height bo_floor bo_goals bo_live bo_boxes bo_person hBS bo_liveBesideInRow bo_liveBesideInColumn] H → va_D A [cBO hBO bo_width bo_height bo_floor bo_goals bo_live bo_boxes bo_person hBS bo_liveBesideInRow bo_liveBesideInColumn] → va_S A s.heap H locs → lv_has ls 13 [(0, .ref hBO), (5, .long v5), (7, .long v7), (9, .int v9)] → W p l e rm_BO_reachOf s m args below meth c H locs 0 0 (MQ below (gQl G (fun (r : Int64) (u : Unit) => post r ) (fun (u : Unit) => [cBO hBO bo_width bo_height bo_floor bo_goals bo_live bo_boxes bo_person hBS bo_liveBesideInRow bo_liveBesideInColumn]) A) args s 0 0 A) (F0 m 18 ls []) := by
  intro n
  induction n with
  | zero => intro v5 v7 v9 H locs ls h _ _ _ _; exact h.elim
  | succ n ih =>
    intro v5 v7 v9 H locs ls h hP hD hS hl
    unfold BO_reachOf_18 at h
    refine lv_iload X.1 X.2.1 dX0_reachOf_18 (lv_at hl 3 rfl) ?_
    refine lv_bipush (v := (64 : Int32)) X.1 X.2.1 dX0_reachOf_20 (by decide) ?_
    refine lv_icmp_ge (tgt := 80) X.1 X.2.1 dX0_reachOf_22 (by decide) (fun hc => ?_) (fun hc => ?_)
    · replace h := Eq.mp (if_pos hc) h
      refine lv_lload X.1 X.2.1 dX0_reachOf_80 (lv_at hl 2 rfl) ?_
      exact g_lret X () h hP hD hS dX0_reachOf_82
    · replace h := Eq.mp (if_neg hc) h
      refine lv_lload X.1 X.2.1 dX0_reachOf_25 (lv_at hl 2 rfl) ?_
      refine lv_lstore (lv' := [(10, .long v7), (0, .ref hBO), (5, .long v5), (7, .long v7), (9, .int v9)]) X.1 X.2.1 dX0_reachOf_27 hl (by decide) rfl (fun ls hl => ?_)
      refine lv_iconst (v := (0 : Int32)) X.1 X.2.1 dX0_reachOf_29 (by decide) ?_
      refine lv_istore (lv' := [(12, .int (0 : Int32)), (10, .long v7), (0, .ref hBO), (5, .long v5), (7, .long v7), (9, .int v9)]) X.1 X.2.1 dX0_reachOf_30 hl (by decide) rfl (fun ls hl => ?_)
      obtain ⟨n', h⟩ := h
      exact s_BO_reachOf_32 X (fun v5' v7' v9' H' locs' ls' h' hP' hD' hS' hl' => ih v5' v7' v9' H' locs' ls' h' hP' hD' hS' hl') n' v5 v7 v9 v7 (0 : Int32) _ _ _ h hP hD hS (lv_sub hl [2, 3, 4, 5, 1, 0] rfl)
set_option maxHeartbeats 4000000 in
set_option maxRecDepth 100000 in
theorem c_BO_reachOf (l : Launch) (G : gEnv) (hBO : Nat) (hBS : Nat) (bo_width : Int32) (bo_height : Int32) (bo_floor : Int64) (bo_goals : Int64) (bo_live : Int64) (bo_boxes : Int64) (bo_person : Int64) (bo_liveBesideInRow : Int64) (bo_liveBesideInColumn : Int64) (v1 : Int64) (v3 : Int64) (post : Int64 → Prop) (h : BO_reachOf bo_floor v1 v3 post) (sz : Nat) : Met l yX0_reachOf (Cond.code yX0_reachOf cX0_reachOf 13 (some .long) :: wAll) (rm_BO_reachOf) (gPc G [.ref hBO, .long v1, .long v3] [cBO hBO bo_width bo_height bo_floor bo_goals bo_live bo_boxes bo_person hBS bo_liveBesideInRow bo_liveBesideInColumn] sz) (gQl G (fun (r : Int64) (u : Unit) => post r ) (fun (u : Unit) => [cBO hBO bo_width bo_height bo_floor bo_goals bo_live bo_boxes bo_person hBS bo_liveBesideInRow bo_liveBesideInColumn]) (va_A [cBO hBO bo_width bo_height bo_floor bo_goals bo_live bo_boxes bo_person hBS bo_liveBesideInRow bo_liveBesideInColumn] sz)) 0 0 (va_A [cBO hBO bo_width bo_height bo_floor bo_goals bo_live bo_boxes bo_person hBS bo_liveBesideInRow bo_liveBesideInColumn] sz) := by
  refine Met.ofW (cc := cX0_reachOf) (maxL := 13) (ret := (some .long)) (by decide) rfl ?_
  intro p e s m args below meth c s₁ B hml hv
  obtain ⟨rfl, hsz, hP, hK, hD0⟩ := hv
  subst hsz
  have X := gX.ofB (ws := [cBO hBO bo_width bo_height bo_floor bo_goals bo_live bo_boxes bo_person hBS bo_liveBesideInRow bo_liveBesideInColumn]) B hml hK hD0
  have hD := hD0.self (sz := s.heap.size)
  generalize hAe : va_A [cBO hBO bo_width bo_height bo_floor bo_goals bo_live bo_boxes bo_person hBS bo_liveBesideInRow bo_liveBesideInColumn] s.heap.size = A at X hD ⊢
  have hS : va_S A s.heap s.heap [] := va_S.rf
  have hl := lv_entry ([.ref hBO, .long v1, .long v3]) (n := 13) (Nat.le_of_ble_eq_true rfl)
  rw [lg_entry_eq]
  generalize (lg_sl ([.ref hBO, .long v1, .long v3]) ++ List.replicate (13 - (lg_sl ([.ref hBO, .long v1, .long v3])).length) Slot.unset).toArray = ls at hl ⊢
  have hl : lv_has ls 13 [(0, .ref hBO), (1, .long v1), (3, .long v3)] := hl
  dsimp only [headSpec]
  unfold BO_reachOf at h
  refine lv_aload_n X.1 X.2.1 dX0_reachOf_0 rfl (lv_at hl 0 rfl) ?_
  refine g_get X hP 0 0 2 (v := .long bo_floor) rfl rfl inX0 (by decide) fl_X0_36 rfl dX0_reachOf_1 ?_
  refine lv_lload_n X.1 X.2.1 dX0_reachOf_4 rfl (lv_at hl 2 rfl) ?_
  refine lv_ldc2 (v := (-1 : Int64)) X.1 X.2.1 X.2.2.2.1 (X.2.2.2.2.1 _ cn_X0_34) dX0_reachOf_5 ?_
  refine lv_lxor X.1 X.2.1 dX0_reachOf_8 ?_
  refine lv_land X.1 X.2.1 dX0_reachOf_9 ?_
  refine lv_topl (fun v5_1 e_v5_1 => ?_)
  replace h := h v5_1 e_v5_1
  refine lv_lstore (lv' := [(5, .long v5_1), (0, .ref hBO), (1, .long v1), (3, .long v3)]) X.1 X.2.1 dX0_reachOf_10 hl (by decide) rfl (fun ls hl => ?_)
  refine lv_lload_n X.1 X.2.1 dX0_reachOf_12 rfl (lv_at hl 2 rfl) ?_
  refine lv_lstore (lv' := [(7, .long v1), (5, .long v5_1), (0, .ref hBO), (1, .long v1), (3, .long v3)]) X.1 X.2.1 dX0_reachOf_13 hl (by decide) rfl (fun ls hl => ?_)
  refine lv_iconst (v := (0 : Int32)) X.1 X.2.1 dX0_reachOf_15 (by decide) ?_
  refine lv_istore (lv' := [(9, .int (0 : Int32)), (7, .long v1), (5, .long v5_1), (0, .ref hBO), (1, .long v1), (3, .long v3)]) X.1 X.2.1 dX0_reachOf_16 hl (by decide) rfl (fun ls hl => ?_)
  obtain ⟨n', h⟩ := h
  exact s_BO_reachOf_18 X  n' v5_1 v1 (0 : Int32) _ _ _ h hP hD hS (lv_sub hl [3, 2, 1, 0] rfl)
abbrev rm_BO_stepsTo : Room := { frames := 1, cells := 0, slots := 0, locals := 22 }
set_option maxHeartbeats 4000000 in
set_option maxRecDepth 100000 in
theorem s_BO_stepsTo_48 {p : Program} {l : Launch} {e : Env} {s : State} {m : MethodId} {args : Array Value} {below : List Frame} {meth : Method} {c : Code} {G : gEnv} {A : Nat → Prop} {hBO : Nat} {hBS : Nat} {bo_width : Int32} {bo_height : Int32} {bo_goals : Int64} {bo_live : Int64} {bo_liveBesideInRow : Int64} {bo_liveBesideInColumn : Int64} {bo_floor : Int64} {bo_boxes : Int64} {bo_person : Int64} {k23 : Int64 → Int64 → Int64 → Int32 → Prop} {post : Int32 → Prop} (X : gX p m meth c cX0_stepsTo 11 RX0 (some .int) s args G A) (hk23 : ∀ (v1' : Int64) (v3' : Int64) (v5' : Int64) (v7' : Int32) (H : Heap) (locs : List Loc) (ls : Array Slot), k23 v1' v3' v5' v7' → va_P G.1 gCl [cBO hBO bo_width bo_height bo_floor bo_goals bo_live bo_boxes bo_person hBS bo_liveBesideInRow bo_liveBesideInColumn] H → va_D A [cBO hBO bo_width bo_height bo_floor bo_goals bo_live bo_boxes bo_person hBS bo_liveBesideInRow bo_liveBesideInColumn] → va_S A s.heap H locs → lv_has ls 11 [(0, .ref hBO), (1, .long v1'), (3, .long v3'), (5, .long v5'), (7, .int v7')] → W p l e rm_BO_stepsTo s m args below meth c H locs 0 0 (MQ below (gQi G (fun (r : Int32) (u : Unit) => post r ) (fun (u : Unit) => [cBO hBO bo_width bo_height bo_floor bo_goals bo_live bo_boxes bo_person hBS bo_liveBesideInRow bo_liveBesideInColumn]) A) args s 0 0 A) (F0 m 23 ls [])) : ∀ (n : Nat) (v1 : Int64) (v3 : Int64) (v5 : Int64) (v7 : Int32) (v8 : Int64) (v10 : Int32) (H : Heap) (locs : List Loc) (ls : Array Slot), BO_stepsTo_48 bo_floor bo_boxes bo_person k23 post n v1 v3 v5 v7 v8 v10 → va_P G.1 gCl [cBO hBO bo_width bo_height bo_floor bo_goals bo_live bo_boxes bo_person hBS bo_liveBesideInRow bo_liveBesideInColumn] H → va_D A [cBO hBO bo_width bo_height bo_floor bo_goals bo_live bo_boxes bo_person hBS bo_liveBesideInRow bo_liveBesideInColumn] → va_S A s.heap H locs → lv_has ls 11 [(0, .ref hBO), (1, .long v1), (3, .long v3), (5, .long v5), (7, .int v7), (8, .long v8), (10, .int v10)] → W p l e rm_BO_stepsTo s m args below meth c H locs 0 0 (MQ below (gQi G (fun (r : Int32) (u : Unit) => post r ) (fun (u : Unit) => [cBO hBO bo_width bo_height bo_floor bo_goals bo_live bo_boxes bo_person hBS bo_liveBesideInRow bo_liveBesideInColumn]) A) args s 0 0 A) (F0 m 48 ls []) := by
  intro n
  induction n with
  | zero => intro v1 v3 v5 v7 v8 v10 H locs ls h _ _ _ _; exact h.elim
  | succ n ih =>
    intro v1 v3 v5 v7 v8 v10 H locs ls h hP hD hS hl
    unfold BO_stepsTo_48 at h
    refine lv_iload X.1 X.2.1 dX0_stepsTo_48 (lv_at hl 6 rfl) ?_
    refine lv_iconst (v := (4 : Int32)) X.1 X.2.1 dX0_stepsTo_50 (by decide) ?_
    refine lv_icmp_ge (tgt := 74) X.1 X.2.1 dX0_stepsTo_51 (by decide) (fun hc => ?_) (fun hc => ?_)
    · replace h := Eq.mp (if_pos hc) h
      refine lv_lload X.1 X.2.1 dX0_stepsTo_74 (lv_at hl 3 rfl) ?_
      refine lv_lload X.1 X.2.1 dX0_stepsTo_76 (lv_at hl 5 rfl) ?_
      refine lv_lor X.1 X.2.1 dX0_stepsTo_78 ?_
      refine lv_topl (fun v5_1 e_v5_1 => ?_)
      replace h := h v5_1 e_v5_1
      refine lv_lstore (lv' := [(5, .long v5_1), (0, .ref hBO), (1, .long v1), (3, .long v3), (7, .int v7), (8, .long v8), (10, .int v10)]) X.1 X.2.1 dX0_stepsTo_79 hl (by decide) rfl (fun ls hl => ?_)
      refine lv_iinc (v := (v7 + (1 : Int32))) (lv' := [(7, .int (v7 + (1 : Int32))), (5, .long v5_1), (0, .ref hBO), (1, .long v1), (3, .long v3), (8, .long v8), (10, .int v10)]) X.1 X.2.1 dX0_stepsTo_81 hl (k := 4) rfl rfl (by decide) rfl (fun ls hl => ?_)
      refine lv_goto (tgt := 23) X.1 X.2.1 dX0_stepsTo_84 (by decide) ?_
      exact hk23 v1 v3 v5_1 (v7 + (1 : Int32)) _ _ _ h hP hD hS (lv_sub hl [2, 3, 4, 1, 0] rfl)
    · replace h := Eq.mp (if_neg hc) h
      refine lv_lload X.1 X.2.1 dX0_stepsTo_54 (lv_at hl 5 rfl) ?_
      refine lv_lload X.1 X.2.1 dX0_stepsTo_56 (lv_at hl 3 rfl) ?_
      refine lv_iload X.1 X.2.1 dX0_stepsTo_58 (lv_at hl 6 rfl) ?_
      refine g_cl (wr := [cBO hBO bo_width bo_height bo_floor bo_goals bo_live bo_boxes bo_person hBS bo_liveBesideInRow bo_liveBesideInColumn]) X [] [0] (g_rN (As := [.long v5, .int v10]) (rest := [.long v8]) X (c_PB_shifted l G v5 v10 _ h _) lk_X0_58 rfl rfl ⟨Nat.le_of_ble_eq_true rfl, Nat.le_of_ble_eq_true rfl⟩ hP hD hS [] rfl rfl rfl hl.1 rfl (Nat.le_of_ble_eq_true rfl) dX0_stepsTo_60 ⟨Nat.le_of_ble_eq_true rfl, Nat.le_of_ble_eq_true rfl⟩) hP hD hS rfl rfl rfl (by decide) (fun r_2 u H locs h hP hD hS => ?_)
      try dsimp only at h
      replace hP := hP.sub (ws' := [cBO hBO bo_width bo_height bo_floor bo_goals bo_live bo_boxes bo_person hBS bo_liveBesideInRow bo_liveBesideInColumn]) [0] rfl
      replace hD := hD.sub (ws' := [cBO hBO bo_width bo_height bo_floor bo_goals bo_live bo_boxes bo_person hBS bo_liveBesideInRow bo_liveBesideInColumn]) [0] rfl rfl
      refine lv_lload_n X.1 X.2.1 dX0_stepsTo_63 rfl (lv_at hl 2 rfl) ?_
      refine lv_land X.1 X.2.1 dX0_stepsTo_64 ?_
      refine lv_lor X.1 X.2.1 dX0_stepsTo_65 ?_
      refine lv_topl (fun v8_3 e_v8_3 => ?_)
      replace h := h v8_3 e_v8_3
      refine lv_lstore (lv' := [(8, .long v8_3), (0, .ref hBO), (1, .long v1), (3, .long v3), (5, .long v5), (7, .int v7), (10, .int v10)]) X.1 X.2.1 dX0_stepsTo_66 hl (by decide) rfl (fun ls hl => ?_)
      refine lv_iinc (v := (v10 + (1 : Int32))) (lv' := [(10, .int (v10 + (1 : Int32))), (8, .long v8_3), (0, .ref hBO), (1, .long v1), (3, .long v3), (5, .long v5), (7, .int v7)]) X.1 X.2.1 dX0_stepsTo_68 hl (k := 6) rfl rfl (by decide) rfl (fun ls hl => ?_)
      refine lv_goto (tgt := 48) X.1 X.2.1 dX0_stepsTo_71 (by decide) ?_
      exact ih v1 v3 v5 v7 v8_3 (v10 + (1 : Int32)) _ _ _ h hP hD hS (lv_sub hl [2, 3, 4, 5, 6, 1, 0] rfl)
set_option maxHeartbeats 4000000 in
set_option maxRecDepth 100000 in
theorem s_BO_stepsTo_23 {p : Program} {l : Launch} {e : Env} {s : State} {m : MethodId} {args : Array Value} {below : List Frame} {meth : Method} {c : Code} {G : gEnv} {A : Nat → Prop} {hBO : Nat} {hBS : Nat} {bo_width : Int32} {bo_height : Int32} {bo_goals : Int64} {bo_live : Int64} {bo_liveBesideInRow : Int64} {bo_liveBesideInColumn : Int64} {bo_floor : Int64} {bo_boxes : Int64} {bo_person : Int64} {post : Int32 → Prop} (X : gX p m meth c cX0_stepsTo 11 RX0 (some .int) s args G A)  : ∀ (n : Nat) (v1 : Int64) (v3 : Int64) (v5 : Int64) (v7 : Int32) (H : Heap) (locs : List Loc) (ls : Array Slot), BO_stepsTo_23 bo_floor bo_boxes bo_person post n v1 v3 v5 v7 → va_P G.1 gCl [cBO hBO bo_width bo_height bo_floor bo_goals bo_live bo_boxes bo_person hBS bo_liveBesideInRow bo_liveBesideInColumn] H → va_D A [cBO hBO bo_width bo_height bo_floor bo_goals bo_live bo_boxes bo_person hBS bo_liveBesideInRow bo_liveBesideInColumn] → va_S A s.heap H locs → lv_has ls 11 [(0, .ref hBO), (1, .long v1), (3, .long v3), (5, .long v5), (7, .int v7)] → W p l e rm_BO_stepsTo s m args below meth c H locs 0 0 (MQ below (gQi G (fun (r : Int32) (u : Unit) => post r ) (fun (u : Unit) => [cBO hBO bo_width bo_height bo_floor bo_goals bo_live bo_boxes bo_person hBS bo_liveBesideInRow bo_liveBesideInColumn]) A) args s 0 0 A) (F0 m 23 ls []) := by
  intro n
  induction n with
  | zero => intro v1 v3 v5 v7 H locs ls h _ _ _ _; exact h.elim
  | succ n ih =>
    intro v1 v3 v5 v7 H locs ls h hP hD hS hl
    unfold BO_stepsTo_23 at h
    refine lv_iload X.1 X.2.1 dX0_stepsTo_23 (lv_at hl 4 rfl) ?_
    refine lv_bipush (v := (64 : Int32)) X.1 X.2.1 dX0_stepsTo_25 (by decide) ?_
    refine lv_icmp_ge (tgt := 87) X.1 X.2.1 dX0_stepsTo_27 (by decide) (fun hc => ?_) (fun hc => ?_)
    · replace h := Eq.mp (if_pos hc) h
      refine lv_iconst (v := (-1 : Int32)) X.1 X.2.1 dX0_stepsTo_87 (by decide) ?_
      exact g_iret X () h hP hD hS dX0_stepsTo_88
    · replace h := Eq.mp (if_neg hc) h
      refine lv_lload X.1 X.2.1 dX0_stepsTo_30 (lv_at hl 3 rfl) ?_
      refine lv_lload_n X.1 X.2.1 dX0_stepsTo_32 rfl (lv_at hl 1 rfl) ?_
      refine lv_land X.1 X.2.1 dX0_stepsTo_33 ?_
      refine lv_lconst (v := (0 : Int64)) X.1 X.2.1 dX0_stepsTo_34 (by decide) ?_
      refine g_lcmp_eq (tgt := 42) X dX0_stepsTo_35 dX0_stepsTo_36 (by decide) (fun hc => ?_) (fun hc => ?_)
      · replace h := Eq.mp (if_pos hc) h
        refine lv_lconst (v := (0 : Int64)) X.1 X.2.1 dX0_stepsTo_42 (by decide) ?_
        refine lv_lstore (lv' := [(8, .long (0 : Int64)), (0, .ref hBO), (1, .long v1), (3, .long v3), (5, .long v5), (7, .int v7)]) X.1 X.2.1 dX0_stepsTo_43 hl (by decide) rfl (fun ls hl => ?_)
        refine lv_iconst (v := (0 : Int32)) X.1 X.2.1 dX0_stepsTo_45 (by decide) ?_
        refine lv_istore (lv' := [(10, .int (0 : Int32)), (8, .long (0 : Int64)), (0, .ref hBO), (1, .long v1), (3, .long v3), (5, .long v5), (7, .int v7)]) X.1 X.2.1 dX0_stepsTo_46 hl (by decide) rfl (fun ls hl => ?_)
        obtain ⟨n', h⟩ := h
        exact s_BO_stepsTo_48 X (fun v1' v3' v5' v7' H' locs' ls' h' hP' hD' hS' hl' => ih v1' v3' v5' v7' H' locs' ls' h' hP' hD' hS' hl') n' v1 v3 v5 v7 (0 : Int64) (0 : Int32) _ _ _ h hP hD hS (lv_sub hl [2, 3, 4, 5, 6, 1, 0] rfl)
      · replace h := Eq.mp (if_neg hc) h
        refine lv_iload X.1 X.2.1 dX0_stepsTo_39 (lv_at hl 4 rfl) ?_
        exact g_iret X () h hP hD hS dX0_stepsTo_41
set_option maxHeartbeats 4000000 in
set_option maxRecDepth 100000 in
theorem c_BO_stepsTo (l : Launch) (G : gEnv) (hBO : Nat) (hBS : Nat) (bo_width : Int32) (bo_height : Int32) (bo_floor : Int64) (bo_goals : Int64) (bo_live : Int64) (bo_boxes : Int64) (bo_person : Int64) (bo_liveBesideInRow : Int64) (bo_liveBesideInColumn : Int64) (v1 : Int64) (post : Int32 → Prop) (h : BO_stepsTo bo_floor bo_boxes bo_person v1 post) (sz : Nat) : Met l yX0_stepsTo (Cond.code yX0_stepsTo cX0_stepsTo 11 (some .int) :: wAll) (rm_BO_stepsTo) (gPc G [.ref hBO, .long v1] [cBO hBO bo_width bo_height bo_floor bo_goals bo_live bo_boxes bo_person hBS bo_liveBesideInRow bo_liveBesideInColumn] sz) (gQi G (fun (r : Int32) (u : Unit) => post r ) (fun (u : Unit) => [cBO hBO bo_width bo_height bo_floor bo_goals bo_live bo_boxes bo_person hBS bo_liveBesideInRow bo_liveBesideInColumn]) (va_A [cBO hBO bo_width bo_height bo_floor bo_goals bo_live bo_boxes bo_person hBS bo_liveBesideInRow bo_liveBesideInColumn] sz)) 0 0 (va_A [cBO hBO bo_width bo_height bo_floor bo_goals bo_live bo_boxes bo_person hBS bo_liveBesideInRow bo_liveBesideInColumn] sz) := by
  refine Met.ofW (cc := cX0_stepsTo) (maxL := 11) (ret := (some .int)) (by decide) rfl ?_
  intro p e s m args below meth c s₁ B hml hv
  obtain ⟨rfl, hsz, hP, hK, hD0⟩ := hv
  subst hsz
  have X := gX.ofB (ws := [cBO hBO bo_width bo_height bo_floor bo_goals bo_live bo_boxes bo_person hBS bo_liveBesideInRow bo_liveBesideInColumn]) B hml hK hD0
  have hD := hD0.self (sz := s.heap.size)
  generalize hAe : va_A [cBO hBO bo_width bo_height bo_floor bo_goals bo_live bo_boxes bo_person hBS bo_liveBesideInRow bo_liveBesideInColumn] s.heap.size = A at X hD ⊢
  have hS : va_S A s.heap s.heap [] := va_S.rf
  have hl := lv_entry ([.ref hBO, .long v1]) (n := 11) (Nat.le_of_ble_eq_true rfl)
  rw [lg_entry_eq]
  generalize (lg_sl ([.ref hBO, .long v1]) ++ List.replicate (11 - (lg_sl ([.ref hBO, .long v1])).length) Slot.unset).toArray = ls at hl ⊢
  have hl : lv_has ls 11 [(0, .ref hBO), (1, .long v1)] := hl
  dsimp only [headSpec]
  unfold BO_stepsTo at h
  refine lv_aload_n X.1 X.2.1 dX0_stepsTo_0 rfl (lv_at hl 0 rfl) ?_
  refine g_get X hP 0 0 2 (v := .long bo_floor) rfl rfl inX0 (by decide) fl_X0_36 rfl dX0_stepsTo_1 ?_
  refine lv_aload_n X.1 X.2.1 dX0_stepsTo_4 rfl (lv_at hl 0 rfl) ?_
  refine g_get X hP 0 0 5 (v := .long bo_boxes) rfl rfl inX0 (by decide) fl_X0_46 rfl dX0_stepsTo_5 ?_
  refine lv_ldc2 (v := (-1 : Int64)) X.1 X.2.1 X.2.2.2.1 (X.2.2.2.2.1 _ cn_X0_34) dX0_stepsTo_8 ?_
  refine lv_lxor X.1 X.2.1 dX0_stepsTo_11 ?_
  refine lv_land X.1 X.2.1 dX0_stepsTo_12 ?_
  refine lv_topl (fun v3_1 e_v3_1 => ?_)
  replace h := h v3_1 e_v3_1
  refine lv_lstore_n (lv' := [(3, .long v3_1), (0, .ref hBO), (1, .long v1)]) X.1 X.2.1 dX0_stepsTo_13 rfl hl (by decide) rfl (fun ls hl => ?_)
  refine lv_aload_n X.1 X.2.1 dX0_stepsTo_14 rfl (lv_at hl 1 rfl) ?_
  refine g_get X hP 0 0 6 (v := .long bo_person) rfl rfl inX0 (by decide) fl_X0_50 rfl dX0_stepsTo_15 ?_
  refine lv_lstore (lv' := [(5, .long bo_person), (3, .long v3_1), (0, .ref hBO), (1, .long v1)]) X.1 X.2.1 dX0_stepsTo_18 hl (by decide) rfl (fun ls hl => ?_)
  refine lv_iconst (v := (0 : Int32)) X.1 X.2.1 dX0_stepsTo_20 (by decide) ?_
  refine lv_istore (lv' := [(7, .int (0 : Int32)), (5, .long bo_person), (3, .long v3_1), (0, .ref hBO), (1, .long v1)]) X.1 X.2.1 dX0_stepsTo_21 hl (by decide) rfl (fun ls hl => ?_)
  obtain ⟨n', h⟩ := h
  exact s_BO_stepsTo_23 X  n' v1 v3_1 bo_person (0 : Int32) _ _ _ h hP hD hS (lv_sub hl [3, 4, 2, 1, 0] rfl)
abbrev rm_BO_standing : Room := { frames := 1, cells := 0, slots := 0, locals := 22 }
set_option maxHeartbeats 4000000 in
set_option maxRecDepth 100000 in
theorem s_BO_standing_5 {p : Program} {l : Launch} {e : Env} {s : State} {m : MethodId} {args : Array Value} {below : List Frame} {meth : Method} {c : Code} {G : gEnv} {A : Nat → Prop} {hBO : Nat} {hBS : Nat} {bo_width : Int32} {bo_height : Int32} {bo_goals : Int64} {bo_live : Int64} {bo_boxes : Int64} {bo_person : Int64} {bo_floor : Int64} {bo_liveBesideInRow : Int64} {bo_liveBesideInColumn : Int64} {post : Int64 → Prop} (X : gX p m meth c cX0_standing 14 RX0 (some .long) s args G A)  : ∀ (n : Nat) (v3 : Int64) (v5 : Int32) (H : Heap) (locs : List Loc) (ls : Array Slot), BO_standing_5 bo_floor bo_liveBesideInRow bo_liveBesideInColumn post n v3 v5 → va_P G.1 gCl [cBO hBO bo_width bo_height bo_floor bo_goals bo_live bo_boxes bo_person hBS bo_liveBesideInRow bo_liveBesideInColumn] H → va_D A [cBO hBO bo_width bo_height bo_floor bo_goals bo_live bo_boxes bo_person hBS bo_liveBesideInRow bo_liveBesideInColumn] → va_S A s.heap H locs → lv_has ls 14 [(0, .ref hBO), (3, .long v3), (5, .int v5)] → W p l e rm_BO_standing s m args below meth c H locs 0 0 (MQ below (gQl G (fun (r : Int64) (u : Unit) => post r ) (fun (u : Unit) => [cBO hBO bo_width bo_height bo_floor bo_goals bo_live bo_boxes bo_person hBS bo_liveBesideInRow bo_liveBesideInColumn]) A) args s 0 0 A) (F0 m 5 ls []) := by
  intro n
  induction n with
  | zero => intro v3 v5 H locs ls h _ _ _ _; exact h.elim
  | succ n ih =>
    intro v3 v5 H locs ls h hP hD hS hl
    unfold BO_standing_5 at h
    refine lv_iload X.1 X.2.1 dX0_standing_5 (lv_at hl 2 rfl) ?_
    refine lv_bipush (v := (12 : Int32)) X.1 X.2.1 dX0_standing_7 (by decide) ?_
    refine lv_icmp_gt (tgt := 96) X.1 X.2.1 dX0_standing_9 (by decide) (fun hc => ?_) (fun hc => ?_)
    · replace h := Eq.mp (if_pos hc) h
      refine lv_lload_n X.1 X.2.1 dX0_standing_96 rfl (lv_at hl 1 rfl) ?_
      exact g_lret X () h hP hD hS dX0_standing_97
    · replace h := Eq.mp (if_neg hc) h
      refine lv_aload_n X.1 X.2.1 dX0_standing_12 rfl (lv_at hl 0 rfl) ?_
      refine g_get X hP 0 0 2 (v := .long bo_floor) rfl rfl inX0 (by decide) fl_X0_36 rfl dX0_standing_13 ?_
      refine lv_lload_n X.1 X.2.1 dX0_standing_16 rfl (lv_at hl 1 rfl) ?_
      refine lv_ldc2 (v := (-1 : Int64)) X.1 X.2.1 X.2.2.2.1 (X.2.2.2.2.1 _ cn_X0_34) dX0_standing_17 ?_
      refine lv_lxor X.1 X.2.1 dX0_standing_20 ?_
      refine lv_land X.1 X.2.1 dX0_standing_21 ?_
      refine lv_topl (fun v6_1 e_v6_1 => ?_)
      replace h := h v6_1 e_v6_1
      refine lv_lstore (lv' := [(6, .long v6_1), (0, .ref hBO), (3, .long v3), (5, .int v5)]) X.1 X.2.1 dX0_standing_22 hl (by decide) rfl (fun ls hl => ?_)
      refine lv_lload X.1 X.2.1 dX0_standing_24 (lv_at hl 0 rfl) ?_
      refine lv_iconst (v := (0 : Int32)) X.1 X.2.1 dX0_standing_26 (by decide) ?_
      refine g_cl (wr := [cBO hBO bo_width bo_height bo_floor bo_goals bo_live bo_boxes bo_person hBS bo_liveBesideInRow bo_liveBesideInColumn]) X [] [0] (g_rN (As := [.long v6_1, .int (0 : Int32)]) (rest := []) X (c_PB_shifted l G v6_1 (0 : Int32) _ h _) lk_X0_58 rfl rfl ⟨Nat.le_of_ble_eq_true rfl, Nat.le_of_ble_eq_true rfl⟩ hP hD hS [] rfl rfl rfl hl.1 rfl (Nat.le_of_ble_eq_true rfl) dX0_standing_27 ⟨Nat.le_of_ble_eq_true rfl, Nat.le_of_ble_eq_true rfl⟩) hP hD hS rfl rfl rfl (by decide) (fun r_2 u H locs h hP hD hS => ?_)
      try dsimp only at h
      replace hP := hP.sub (ws' := [cBO hBO bo_width bo_height bo_floor bo_goals bo_live bo_boxes bo_person hBS bo_liveBesideInRow bo_liveBesideInColumn]) [0] rfl
      replace hD := hD.sub (ws' := [cBO hBO bo_width bo_height bo_floor bo_goals bo_live bo_boxes bo_person hBS bo_liveBesideInRow bo_liveBesideInColumn]) [0] rfl rfl
      refine lv_lload X.1 X.2.1 dX0_standing_30 (lv_at hl 0 rfl) ?_
      refine lv_iconst (v := (2 : Int32)) X.1 X.2.1 dX0_standing_32 (by decide) ?_
      refine g_cl (wr := [cBO hBO bo_width bo_height bo_floor bo_goals bo_live bo_boxes bo_person hBS bo_liveBesideInRow bo_liveBesideInColumn]) X [] [0] (g_rN (As := [.long v6_1, .int (2 : Int32)]) (rest := [.long r_2]) X (c_PB_shifted l G v6_1 (2 : Int32) _ h _) lk_X0_58 rfl rfl ⟨Nat.le_of_ble_eq_true rfl, Nat.le_of_ble_eq_true rfl⟩ hP hD hS [] rfl rfl rfl hl.1 rfl (Nat.le_of_ble_eq_true rfl) dX0_standing_33 ⟨Nat.le_of_ble_eq_true rfl, Nat.le_of_ble_eq_true rfl⟩) hP hD hS rfl rfl rfl (by decide) (fun r_3 u H locs h hP hD hS => ?_)
      try dsimp only at h
      replace hP := hP.sub (ws' := [cBO hBO bo_width bo_height bo_floor bo_goals bo_live bo_boxes bo_person hBS bo_liveBesideInRow bo_liveBesideInColumn]) [0] rfl
      replace hD := hD.sub (ws' := [cBO hBO bo_width bo_height bo_floor bo_goals bo_live bo_boxes bo_person hBS bo_liveBesideInRow bo_liveBesideInColumn]) [0] rfl rfl
      refine lv_land X.1 X.2.1 dX0_standing_36 ?_
      refine lv_aload_n X.1 X.2.1 dX0_standing_37 rfl (lv_at hl 1 rfl) ?_
      refine g_get X hP 0 0 8 (v := .long bo_liveBesideInRow) rfl rfl inX0 (by decide) fl_X0_62 rfl dX0_standing_38 ?_
      refine lv_land X.1 X.2.1 dX0_standing_41 ?_
      refine lv_topl (fun v8_4 e_v8_4 => ?_)
      replace h := h v8_4 e_v8_4
      refine lv_lstore (lv' := [(8, .long v8_4), (6, .long v6_1), (0, .ref hBO), (3, .long v3), (5, .int v5)]) X.1 X.2.1 dX0_standing_42 hl (by decide) rfl (fun ls hl => ?_)
      refine lv_lload X.1 X.2.1 dX0_standing_44 (lv_at hl 1 rfl) ?_
      refine lv_iconst (v := (1 : Int32)) X.1 X.2.1 dX0_standing_46 (by decide) ?_
      refine g_cl (wr := [cBO hBO bo_width bo_height bo_floor bo_goals bo_live bo_boxes bo_person hBS bo_liveBesideInRow bo_liveBesideInColumn]) X [] [0] (g_rN (As := [.long v6_1, .int (1 : Int32)]) (rest := []) X (c_PB_shifted l G v6_1 (1 : Int32) _ h _) lk_X0_58 rfl rfl ⟨Nat.le_of_ble_eq_true rfl, Nat.le_of_ble_eq_true rfl⟩ hP hD hS [] rfl rfl rfl hl.1 rfl (Nat.le_of_ble_eq_true rfl) dX0_standing_47 ⟨Nat.le_of_ble_eq_true rfl, Nat.le_of_ble_eq_true rfl⟩) hP hD hS rfl rfl rfl (by decide) (fun r_5 u H locs h hP hD hS => ?_)
      try dsimp only at h
      replace hP := hP.sub (ws' := [cBO hBO bo_width bo_height bo_floor bo_goals bo_live bo_boxes bo_person hBS bo_liveBesideInRow bo_liveBesideInColumn]) [0] rfl
      replace hD := hD.sub (ws' := [cBO hBO bo_width bo_height bo_floor bo_goals bo_live bo_boxes bo_person hBS bo_liveBesideInRow bo_liveBesideInColumn]) [0] rfl rfl
      refine lv_lload X.1 X.2.1 dX0_standing_50 (lv_at hl 1 rfl) ?_
      refine lv_iconst (v := (3 : Int32)) X.1 X.2.1 dX0_standing_52 (by decide) ?_
      refine g_cl (wr := [cBO hBO bo_width bo_height bo_floor bo_goals bo_live bo_boxes bo_person hBS bo_liveBesideInRow bo_liveBesideInColumn]) X [] [0] (g_rN (As := [.long v6_1, .int (3 : Int32)]) (rest := [.long r_5]) X (c_PB_shifted l G v6_1 (3 : Int32) _ h _) lk_X0_58 rfl rfl ⟨Nat.le_of_ble_eq_true rfl, Nat.le_of_ble_eq_true rfl⟩ hP hD hS [] rfl rfl rfl hl.1 rfl (Nat.le_of_ble_eq_true rfl) dX0_standing_53 ⟨Nat.le_of_ble_eq_true rfl, Nat.le_of_ble_eq_true rfl⟩) hP hD hS rfl rfl rfl (by decide) (fun r_6 u H locs h hP hD hS => ?_)
      try dsimp only at h
      replace hP := hP.sub (ws' := [cBO hBO bo_width bo_height bo_floor bo_goals bo_live bo_boxes bo_person hBS bo_liveBesideInRow bo_liveBesideInColumn]) [0] rfl
      replace hD := hD.sub (ws' := [cBO hBO bo_width bo_height bo_floor bo_goals bo_live bo_boxes bo_person hBS bo_liveBesideInRow bo_liveBesideInColumn]) [0] rfl rfl
      refine lv_land X.1 X.2.1 dX0_standing_56 ?_
      refine lv_aload_n X.1 X.2.1 dX0_standing_57 rfl (lv_at hl 2 rfl) ?_
      refine g_get X hP 0 0 9 (v := .long bo_liveBesideInColumn) rfl rfl inX0 (by decide) fl_X0_65 rfl dX0_standing_58 ?_
      refine lv_land X.1 X.2.1 dX0_standing_61 ?_
      refine lv_topl (fun v10_7 e_v10_7 => ?_)
      replace h := h v10_7 e_v10_7
      refine lv_lstore (lv' := [(10, .long v10_7), (8, .long v8_4), (6, .long v6_1), (0, .ref hBO), (3, .long v3), (5, .int v5)]) X.1 X.2.1 dX0_standing_62 hl (by decide) rfl (fun ls hl => ?_)
      refine lv_lload_n X.1 X.2.1 dX0_standing_64 rfl (lv_at hl 4 rfl) ?_
      refine lv_lload X.1 X.2.1 dX0_standing_65 (lv_at hl 1 rfl) ?_
      refine lv_lload X.1 X.2.1 dX0_standing_67 (lv_at hl 0 rfl) ?_
      refine lv_lor X.1 X.2.1 dX0_standing_69 ?_
      refine lv_ldc2 (v := (-1 : Int64)) X.1 X.2.1 X.2.2.2.1 (X.2.2.2.2.1 _ cn_X0_34) dX0_standing_70 ?_
      refine lv_lxor X.1 X.2.1 dX0_standing_73 ?_
      refine lv_land X.1 X.2.1 dX0_standing_74 ?_
      refine lv_topl (fun v12_8 e_v12_8 => ?_)
      replace h := h v12_8 e_v12_8
      refine lv_lstore (lv' := [(12, .long v12_8), (10, .long v10_7), (8, .long v8_4), (6, .long v6_1), (0, .ref hBO), (3, .long v3), (5, .int v5)]) X.1 X.2.1 dX0_standing_75 hl (by decide) rfl (fun ls hl => ?_)
      refine lv_lload X.1 X.2.1 dX0_standing_77 (lv_at hl 0 rfl) ?_
      refine lv_lload_n X.1 X.2.1 dX0_standing_79 rfl (lv_at hl 5 rfl) ?_
      refine g_lcmp_ne (tgt := 87) X dX0_standing_80 dX0_standing_81 (by decide) (fun hc => ?_) (fun hc => ?_)
      · replace h := Eq.mp (if_neg hc) h
        refine lv_lload X.1 X.2.1 dX0_standing_87 (lv_at hl 0 rfl) ?_
        refine lv_lstore_n (lv' := [(3, .long v12_8), (12, .long v12_8), (10, .long v10_7), (8, .long v8_4), (6, .long v6_1), (0, .ref hBO), (5, .int v5)]) X.1 X.2.1 dX0_standing_89 rfl hl (by decide) rfl (fun ls hl => ?_)
        refine lv_iinc (v := (v5 + (1 : Int32))) (lv' := [(5, .int (v5 + (1 : Int32))), (3, .long v12_8), (12, .long v12_8), (10, .long v10_7), (8, .long v8_4), (6, .long v6_1), (0, .ref hBO)]) X.1 X.2.1 dX0_standing_90 hl (k := 6) rfl rfl (by decide) rfl (fun ls hl => ?_)
        refine lv_goto (tgt := 5) X.1 X.2.1 dX0_standing_93 (by decide) ?_
        exact ih v12_8 (v5 + (1 : Int32)) _ _ _ h hP hD hS (lv_sub hl [6, 1, 0] rfl)
      · replace h := Eq.mp (if_pos hc) h
        refine lv_goto (tgt := 96) X.1 X.2.1 dX0_standing_84 (by decide) ?_
        refine lv_lload_n X.1 X.2.1 dX0_standing_96 rfl (lv_at hl 5 rfl) ?_
        exact g_lret X () h hP hD hS dX0_standing_97
set_option maxHeartbeats 4000000 in
set_option maxRecDepth 100000 in
theorem c_BO_standing (l : Launch) (G : gEnv) (hBO : Nat) (hBS : Nat) (bo_width : Int32) (bo_height : Int32) (bo_floor : Int64) (bo_goals : Int64) (bo_live : Int64) (bo_boxes : Int64) (bo_person : Int64) (bo_liveBesideInRow : Int64) (bo_liveBesideInColumn : Int64) (v1 : Int64) (post : Int64 → Prop) (h : BO_standing bo_floor bo_liveBesideInRow bo_liveBesideInColumn v1 post) (sz : Nat) : Met l yX0_standing (Cond.code yX0_standing cX0_standing 14 (some .long) :: wAll) (rm_BO_standing) (gPc G [.ref hBO, .long v1] [cBO hBO bo_width bo_height bo_floor bo_goals bo_live bo_boxes bo_person hBS bo_liveBesideInRow bo_liveBesideInColumn] sz) (gQl G (fun (r : Int64) (u : Unit) => post r ) (fun (u : Unit) => [cBO hBO bo_width bo_height bo_floor bo_goals bo_live bo_boxes bo_person hBS bo_liveBesideInRow bo_liveBesideInColumn]) (va_A [cBO hBO bo_width bo_height bo_floor bo_goals bo_live bo_boxes bo_person hBS bo_liveBesideInRow bo_liveBesideInColumn] sz)) 0 0 (va_A [cBO hBO bo_width bo_height bo_floor bo_goals bo_live bo_boxes bo_person hBS bo_liveBesideInRow bo_liveBesideInColumn] sz) := by
  refine Met.ofW (cc := cX0_standing) (maxL := 14) (ret := (some .long)) (by decide) rfl ?_
  intro p e s m args below meth c s₁ B hml hv
  obtain ⟨rfl, hsz, hP, hK, hD0⟩ := hv
  subst hsz
  have X := gX.ofB (ws := [cBO hBO bo_width bo_height bo_floor bo_goals bo_live bo_boxes bo_person hBS bo_liveBesideInRow bo_liveBesideInColumn]) B hml hK hD0
  have hD := hD0.self (sz := s.heap.size)
  generalize hAe : va_A [cBO hBO bo_width bo_height bo_floor bo_goals bo_live bo_boxes bo_person hBS bo_liveBesideInRow bo_liveBesideInColumn] s.heap.size = A at X hD ⊢
  have hS : va_S A s.heap s.heap [] := va_S.rf
  have hl := lv_entry ([.ref hBO, .long v1]) (n := 14) (Nat.le_of_ble_eq_true rfl)
  rw [lg_entry_eq]
  generalize (lg_sl ([.ref hBO, .long v1]) ++ List.replicate (14 - (lg_sl ([.ref hBO, .long v1])).length) Slot.unset).toArray = ls at hl ⊢
  have hl : lv_has ls 14 [(0, .ref hBO), (1, .long v1)] := hl
  dsimp only [headSpec]
  unfold BO_standing at h
  refine lv_lload_n X.1 X.2.1 dX0_standing_0 rfl (lv_at hl 1 rfl) ?_
  refine lv_lstore_n (lv' := [(3, .long v1), (0, .ref hBO), (1, .long v1)]) X.1 X.2.1 dX0_standing_1 rfl hl (by decide) rfl (fun ls hl => ?_)
  refine lv_iconst (v := (0 : Int32)) X.1 X.2.1 dX0_standing_2 (by decide) ?_
  refine lv_istore (lv' := [(5, .int (0 : Int32)), (3, .long v1), (0, .ref hBO), (1, .long v1)]) X.1 X.2.1 dX0_standing_3 hl (by decide) rfl (fun ls hl => ?_)
  obtain ⟨n', h⟩ := h
  exact s_BO_standing_5 X  n' v1 (0 : Int32) _ _ _ h hP hD hS (lv_sub hl [2, 1, 0] rfl)
abbrev rm_BO_isStuck : Room := { frames := 2, cells := 0, slots := 0, locals := 55 }
set_option maxHeartbeats 4000000 in
set_option maxRecDepth 100000 in
theorem c_BO_isStuck (l : Launch) (G : gEnv) (hBO : Nat) (hBS : Nat) (bo_width : Int32) (bo_height : Int32) (bo_floor : Int64) (bo_goals : Int64) (bo_live : Int64) (bo_boxes : Int64) (bo_person : Int64) (bo_liveBesideInRow : Int64) (bo_liveBesideInColumn : Int64) (v1 : Int64) (post : Int32 → Prop) (h : BO_isStuck bo_floor bo_goals bo_liveBesideInRow bo_liveBesideInColumn v1 post) (sz : Nat) : Met l yX0_isStuck (Cond.code yX0_isStuck cX0_isStuck 3 (some .boolean) :: wAll) (rm_BO_isStuck) (gPc G [.ref hBO, .long v1] [cBO hBO bo_width bo_height bo_floor bo_goals bo_live bo_boxes bo_person hBS bo_liveBesideInRow bo_liveBesideInColumn] sz) (gQi G (fun (r : Int32) (u : Unit) => post r ) (fun (u : Unit) => [cBO hBO bo_width bo_height bo_floor bo_goals bo_live bo_boxes bo_person hBS bo_liveBesideInRow bo_liveBesideInColumn]) (va_A [cBO hBO bo_width bo_height bo_floor bo_goals bo_live bo_boxes bo_person hBS bo_liveBesideInRow bo_liveBesideInColumn] sz)) 0 0 (va_A [cBO hBO bo_width bo_height bo_floor bo_goals bo_live bo_boxes bo_person hBS bo_liveBesideInRow bo_liveBesideInColumn] sz) := by
  refine Met.ofW (cc := cX0_isStuck) (maxL := 3) (ret := (some .boolean)) (by decide) rfl ?_
  intro p e s m args below meth c s₁ B hml hv
  obtain ⟨rfl, hsz, hP, hK, hD0⟩ := hv
  subst hsz
  have X := gX.ofB (ws := [cBO hBO bo_width bo_height bo_floor bo_goals bo_live bo_boxes bo_person hBS bo_liveBesideInRow bo_liveBesideInColumn]) B hml hK hD0
  have hD := hD0.self (sz := s.heap.size)
  generalize hAe : va_A [cBO hBO bo_width bo_height bo_floor bo_goals bo_live bo_boxes bo_person hBS bo_liveBesideInRow bo_liveBesideInColumn] s.heap.size = A at X hD ⊢
  have hS : va_S A s.heap s.heap [] := va_S.rf
  have hl := lv_entry ([.ref hBO, .long v1]) (n := 3) (Nat.le_of_ble_eq_true rfl)
  rw [lg_entry_eq]
  generalize (lg_sl ([.ref hBO, .long v1]) ++ List.replicate (3 - (lg_sl ([.ref hBO, .long v1])).length) Slot.unset).toArray = ls at hl ⊢
  have hl : lv_has ls 3 [(0, .ref hBO), (1, .long v1)] := hl
  dsimp only [headSpec]
  unfold BO_isStuck at h
  refine lv_aload_n X.1 X.2.1 dX0_isStuck_0 rfl (lv_at hl 0 rfl) ?_
  refine lv_lload_n X.1 X.2.1 dX0_isStuck_1 rfl (lv_at hl 1 rfl) ?_
  refine g_cl (wr := []) X [0] [] (g_rV (As := [.long v1]) (rest := []) X (c_BO_standing l G hBO hBS bo_width bo_height bo_floor bo_goals bo_live bo_boxes bo_person bo_liveBesideInRow bo_liveBesideInColumn v1 _ h _) lk_X0_82 rfl rfl ⟨Nat.le_of_ble_eq_true rfl, Nat.le_of_ble_eq_true rfl⟩ hP hD hS [0] rfl rfl 0 0 rfl rfl rfl hl.1 rfl (Nat.le_of_ble_eq_true rfl) dX0_isStuck_2 ⟨Nat.le_of_ble_eq_true rfl, Nat.le_of_ble_eq_true rfl⟩) hP hD hS rfl rfl rfl (by decide) (fun r_1 u H locs h hP hD hS => ?_)
  try dsimp only at h
  replace hP := hP.sub (ws' := [cBO hBO bo_width bo_height bo_floor bo_goals bo_live bo_boxes bo_person hBS bo_liveBesideInRow bo_liveBesideInColumn]) [0] rfl
  replace hD := hD.sub (ws' := [cBO hBO bo_width bo_height bo_floor bo_goals bo_live bo_boxes bo_person hBS bo_liveBesideInRow bo_liveBesideInColumn]) [0] rfl rfl
  refine lv_aload_n X.1 X.2.1 dX0_isStuck_5 rfl (lv_at hl 0 rfl) ?_
  refine g_get X hP 0 0 3 (v := .long bo_goals) rfl rfl inX0 (by decide) fl_X0_42 rfl dX0_isStuck_6 ?_
  refine lv_ldc2 (v := (-1 : Int64)) X.1 X.2.1 X.2.2.2.1 (X.2.2.2.2.1 _ cn_X0_34) dX0_isStuck_9 ?_
  refine lv_lxor X.1 X.2.1 dX0_isStuck_12 ?_
  refine lv_land X.1 X.2.1 dX0_isStuck_13 ?_
  refine lv_lconst (v := (0 : Int64)) X.1 X.2.1 dX0_isStuck_14 (by decide) ?_
  refine g_lcmp_eq (tgt := 23) X dX0_isStuck_15 dX0_isStuck_16 (by decide) (fun hc => ?_) (fun hc => ?_)
  · replace h := Eq.mp (if_pos hc) h
    refine lv_iconst (v := (0 : Int32)) X.1 X.2.1 dX0_isStuck_23 (by decide) ?_
    exact g_zret X (by decide) () h hP hD hS dX0_isStuck_24
  · replace h := Eq.mp (if_neg hc) h
    refine lv_iconst (v := (1 : Int32)) X.1 X.2.1 dX0_isStuck_19 (by decide) ?_
    refine lv_goto (tgt := 24) X.1 X.2.1 dX0_isStuck_20 (by decide) ?_
    exact g_zret X (by decide) () h hP hD hS dX0_isStuck_24
abbrev rm_BO_fillBoxSteps : Room := { frames := 2, cells := 0, slots := 0, locals := 42 }
set_option maxHeartbeats 4000000 in
set_option maxRecDepth 100000 in
theorem s_BO_fillBoxSteps_94 {p : Program} {l : Launch} {e : Env} {s : State} {m : MethodId} {args : Array Value} {below : List Frame} {meth : Method} {c : Code} {G : gEnv} {A : Nat → Prop} {hBO : Nat} {hBS : Nat} {bo_width : Int32} {bo_height : Int32} {bo_goals : Int64} {bo_live : Int64} {bo_boxes : Int64} {bo_person : Int64} {bo_liveBesideInRow : Int64} {bo_liveBesideInColumn : Int64} {bo_floor : Int64} {k21 : (Nat → Int32) → Int64 → Int64 → Int32 → Prop} {post : (Nat → Int32) → Prop} (X : gX p m meth c cX0_fillBoxSteps 13 RX0 none s args G A) (hk21 : ∀ (aBS' : (Nat → Int32)) (v3' : Int64) (v5' : Int64) (v7' : Int32) (H : Heap) (locs : List Loc) (ls : Array Slot), k21 aBS' v3' v5' v7' → va_P G.1 gCl [cBO hBO bo_width bo_height bo_floor bo_goals bo_live bo_boxes bo_person hBS bo_liveBesideInRow bo_liveBesideInColumn, cI G hBS 64 aBS'] H → va_D A [cBO hBO bo_width bo_height bo_floor bo_goals bo_live bo_boxes bo_person hBS bo_liveBesideInRow bo_liveBesideInColumn, cI G hBS 64 aBS'] → va_S A s.heap H locs → lv_has ls 13 [(0, .ref hBO), (3, .long v3'), (5, .long v5'), (7, .int v7')] → W p l e rm_BO_fillBoxSteps s m args below meth c H locs 0 0 (MQ below (gQv G (fun (u : (Nat → Int32)) => post u) (fun (u : (Nat → Int32)) => [cBO hBO bo_width bo_height bo_floor bo_goals bo_live bo_boxes bo_person hBS bo_liveBesideInRow bo_liveBesideInColumn, cI G hBS 64 u]) A) args s 0 0 A) (F0 m 21 ls [])) : ∀ (n : Nat) (aBS : (Nat → Int32)) (v3 : Int64) (v5 : Int64) (v7 : Int32) (v10 : Int64) (v12 : Int32) (H : Heap) (locs : List Loc) (ls : Array Slot), BO_fillBoxSteps_94 bo_floor k21 post n aBS v3 v5 v7 v10 v12 → va_P G.1 gCl [cBO hBO bo_width bo_height bo_floor bo_goals bo_live bo_boxes bo_person hBS bo_liveBesideInRow bo_liveBesideInColumn, cI G hBS 64 aBS] H → va_D A [cBO hBO bo_width bo_height bo_floor bo_goals bo_live bo_boxes bo_person hBS bo_liveBesideInRow bo_liveBesideInColumn, cI G hBS 64 aBS] → va_S A s.heap H locs → lv_has ls 13 [(0, .ref hBO), (3, .long v3), (5, .long v5), (7, .int v7), (10, .long v10), (12, .int v12)] → W p l e rm_BO_fillBoxSteps s m args below meth c H locs 0 0 (MQ below (gQv G (fun (u : (Nat → Int32)) => post u) (fun (u : (Nat → Int32)) => [cBO hBO bo_width bo_height bo_floor bo_goals bo_live bo_boxes bo_person hBS bo_liveBesideInRow bo_liveBesideInColumn, cI G hBS 64 u]) A) args s 0 0 A) (F0 m 94 ls []) := by
  intro n
  induction n with
  | zero => intro aBS v3 v5 v7 v10 v12 H locs ls h _ _ _ _; exact h.elim
  | succ n ih =>
    intro aBS v3 v5 v7 v10 v12 H locs ls h hP hD hS hl
    unfold BO_fillBoxSteps_94 at h
    refine lv_iload X.1 X.2.1 dX0_fillBoxSteps_94 (lv_at hl 5 rfl) ?_
    refine lv_iconst (v := (4 : Int32)) X.1 X.2.1 dX0_fillBoxSteps_96 (by decide) ?_
    refine lv_icmp_ge (tgt := 128) X.1 X.2.1 dX0_fillBoxSteps_97 (by decide) (fun hc => ?_) (fun hc => ?_)
    · replace h := Eq.mp (if_pos hc) h
      refine lv_lload X.1 X.2.1 dX0_fillBoxSteps_128 (lv_at hl 4 rfl) ?_
      refine lv_aload_n X.1 X.2.1 dX0_fillBoxSteps_130 rfl (lv_at hl 0 rfl) ?_
      refine g_get X hP 0 0 2 (v := .long bo_floor) rfl rfl inX0 (by decide) fl_X0_36 rfl dX0_fillBoxSteps_131 ?_
      refine lv_land X.1 X.2.1 dX0_fillBoxSteps_134 ?_
      refine lv_lload_n X.1 X.2.1 dX0_fillBoxSteps_135 rfl (lv_at hl 1 rfl) ?_
      refine lv_ldc2 (v := (-1 : Int64)) X.1 X.2.1 X.2.2.2.1 (X.2.2.2.2.1 _ cn_X0_34) dX0_fillBoxSteps_136 ?_
      refine lv_lxor X.1 X.2.1 dX0_fillBoxSteps_139 ?_
      refine lv_land X.1 X.2.1 dX0_fillBoxSteps_140 ?_
      refine lv_topl (fun v5_1 e_v5_1 => ?_)
      replace h := h v5_1 e_v5_1
      refine lv_lstore (lv' := [(5, .long v5_1), (0, .ref hBO), (3, .long v3), (7, .int v7), (10, .long v10), (12, .int v12)]) X.1 X.2.1 dX0_fillBoxSteps_141 hl (by decide) rfl (fun ls hl => ?_)
      refine lv_iinc (v := (v7 + (1 : Int32))) (lv' := [(7, .int (v7 + (1 : Int32))), (5, .long v5_1), (0, .ref hBO), (3, .long v3), (10, .long v10), (12, .int v12)]) X.1 X.2.1 dX0_fillBoxSteps_143 hl (k := 3) rfl rfl (by decide) rfl (fun ls hl => ?_)
      refine lv_goto (tgt := 21) X.1 X.2.1 dX0_fillBoxSteps_146 (by decide) ?_
      exact hk21 aBS v3 v5_1 (v7 + (1 : Int32)) _ _ _ h hP hD hS (lv_sub hl [2, 3, 1, 0] rfl)
    · replace h := Eq.mp (if_neg hc) h
      refine lv_lload X.1 X.2.1 dX0_fillBoxSteps_100 (lv_at hl 4 rfl) ?_
      refine lv_lload X.1 X.2.1 dX0_fillBoxSteps_102 (lv_at hl 2 rfl) ?_
      refine lv_aload_n X.1 X.2.1 dX0_fillBoxSteps_104 rfl (lv_at hl 0 rfl) ?_
      refine g_get X hP 0 0 2 (v := .long bo_floor) rfl rfl inX0 (by decide) fl_X0_36 rfl dX0_fillBoxSteps_105 ?_
      refine lv_iload X.1 X.2.1 dX0_fillBoxSteps_108 (lv_at hl 5 rfl) ?_
      refine g_cl (wr := [cBO hBO bo_width bo_height bo_floor bo_goals bo_live bo_boxes bo_person hBS bo_liveBesideInRow bo_liveBesideInColumn, cI G hBS 64 aBS]) X [] [0, 1] (g_rN (As := [.long bo_floor, .int v12]) (rest := [.long v5, .long v10]) X (c_PB_shifted l G bo_floor v12 _ h _) lk_X0_58 rfl rfl ⟨Nat.le_of_ble_eq_true rfl, Nat.le_of_ble_eq_true rfl⟩ hP hD hS [] rfl rfl rfl hl.1 rfl (Nat.le_of_ble_eq_true rfl) dX0_fillBoxSteps_110 ⟨Nat.le_of_ble_eq_true rfl, Nat.le_of_ble_eq_true rfl⟩) hP hD hS rfl rfl rfl (by decide) (fun r_2 u H locs h hP hD hS => ?_)
      try dsimp only at h
      replace hP := hP.sub (ws' := [cBO hBO bo_width bo_height bo_floor bo_goals bo_live bo_boxes bo_person hBS bo_liveBesideInRow bo_liveBesideInColumn, cI G hBS 64 aBS]) [0, 1] rfl
      replace hD := hD.sub (ws' := [cBO hBO bo_width bo_height bo_floor bo_goals bo_live bo_boxes bo_person hBS bo_liveBesideInRow bo_liveBesideInColumn, cI G hBS 64 aBS]) [0, 1] rfl rfl
      refine lv_land X.1 X.2.1 dX0_fillBoxSteps_113 ?_
      refine lv_iload X.1 X.2.1 dX0_fillBoxSteps_114 (lv_at hl 5 rfl) ?_
      refine g_cl (wr := [cBO hBO bo_width bo_height bo_floor bo_goals bo_live bo_boxes bo_person hBS bo_liveBesideInRow bo_liveBesideInColumn, cI G hBS 64 aBS]) X [] [0, 1] (g_rN (As := [.long (v5 &&& r_2), .int v12]) (rest := [.long v10]) X (c_PB_shifted l G (v5 &&& r_2) v12 _ h _) lk_X0_58 rfl rfl ⟨Nat.le_of_ble_eq_true rfl, Nat.le_of_ble_eq_true rfl⟩ hP hD hS [] rfl rfl rfl hl.1 rfl (Nat.le_of_ble_eq_true rfl) dX0_fillBoxSteps_116 ⟨Nat.le_of_ble_eq_true rfl, Nat.le_of_ble_eq_true rfl⟩) hP hD hS rfl rfl rfl (by decide) (fun r_3 u H locs h hP hD hS => ?_)
      try dsimp only at h
      replace hP := hP.sub (ws' := [cBO hBO bo_width bo_height bo_floor bo_goals bo_live bo_boxes bo_person hBS bo_liveBesideInRow bo_liveBesideInColumn, cI G hBS 64 aBS]) [0, 1] rfl
      replace hD := hD.sub (ws' := [cBO hBO bo_width bo_height bo_floor bo_goals bo_live bo_boxes bo_person hBS bo_liveBesideInRow bo_liveBesideInColumn, cI G hBS 64 aBS]) [0, 1] rfl rfl
      refine lv_lor X.1 X.2.1 dX0_fillBoxSteps_119 ?_
      refine lv_topl (fun v10_4 e_v10_4 => ?_)
      replace h := h v10_4 e_v10_4
      refine lv_lstore (lv' := [(10, .long v10_4), (0, .ref hBO), (3, .long v3), (5, .long v5), (7, .int v7), (12, .int v12)]) X.1 X.2.1 dX0_fillBoxSteps_120 hl (by decide) rfl (fun ls hl => ?_)
      refine lv_iinc (v := (v12 + (1 : Int32))) (lv' := [(12, .int (v12 + (1 : Int32))), (10, .long v10_4), (0, .ref hBO), (3, .long v3), (5, .long v5), (7, .int v7)]) X.1 X.2.1 dX0_fillBoxSteps_122 hl (k := 5) rfl rfl (by decide) rfl (fun ls hl => ?_)
      refine lv_goto (tgt := 94) X.1 X.2.1 dX0_fillBoxSteps_125 (by decide) ?_
      exact ih aBS v3 v5 v7 v10_4 (v12 + (1 : Int32)) _ _ _ h hP hD hS (lv_sub hl [2, 3, 4, 5, 1, 0] rfl)
set_option maxHeartbeats 4000000 in
set_option maxRecDepth 100000 in
theorem s_BO_fillBoxSteps_83 {p : Program} {l : Launch} {e : Env} {s : State} {m : MethodId} {args : Array Value} {below : List Frame} {meth : Method} {c : Code} {G : gEnv} {A : Nat → Prop} {hBO : Nat} {hBS : Nat} {bo_width : Int32} {bo_height : Int32} {bo_goals : Int64} {bo_live : Int64} {bo_boxes : Int64} {bo_person : Int64} {bo_liveBesideInRow : Int64} {bo_liveBesideInColumn : Int64} {bo_floor : Int64} {k21 : (Nat → Int32) → Int64 → Int64 → Int32 → Prop} {post : (Nat → Int32) → Prop} (X : gX p m meth c cX0_fillBoxSteps 13 RX0 none s args G A) (hk21 : ∀ (aBS' : (Nat → Int32)) (v3' : Int64) (v5' : Int64) (v7' : Int32) (H : Heap) (locs : List Loc) (ls : Array Slot), k21 aBS' v3' v5' v7' → va_P G.1 gCl [cBO hBO bo_width bo_height bo_floor bo_goals bo_live bo_boxes bo_person hBS bo_liveBesideInRow bo_liveBesideInColumn, cI G hBS 64 aBS'] H → va_D A [cBO hBO bo_width bo_height bo_floor bo_goals bo_live bo_boxes bo_person hBS bo_liveBesideInRow bo_liveBesideInColumn, cI G hBS 64 aBS'] → va_S A s.heap H locs → lv_has ls 13 [(0, .ref hBO), (3, .long v3'), (5, .long v5'), (7, .int v7')] → W p l e rm_BO_fillBoxSteps s m args below meth c H locs 0 0 (MQ below (gQv G (fun (u : (Nat → Int32)) => post u) (fun (u : (Nat → Int32)) => [cBO hBO bo_width bo_height bo_floor bo_goals bo_live bo_boxes bo_person hBS bo_liveBesideInRow bo_liveBesideInColumn, cI G hBS 64 u]) A) args s 0 0 A) (F0 m 21 ls [])) : ∀ (aBS : (Nat → Int32)) (v3 : Int64) (v5 : Int64) (v7 : Int32) (H : Heap) (locs : List Loc) (ls : Array Slot), BO_fillBoxSteps_83 bo_floor k21 post aBS v3 v5 v7 → va_P G.1 gCl [cBO hBO bo_width bo_height bo_floor bo_goals bo_live bo_boxes bo_person hBS bo_liveBesideInRow bo_liveBesideInColumn, cI G hBS 64 aBS] H → va_D A [cBO hBO bo_width bo_height bo_floor bo_goals bo_live bo_boxes bo_person hBS bo_liveBesideInRow bo_liveBesideInColumn, cI G hBS 64 aBS] → va_S A s.heap H locs → lv_has ls 13 [(0, .ref hBO), (3, .long v3), (5, .long v5), (7, .int v7)] → W p l e rm_BO_fillBoxSteps s m args below meth c H locs 0 0 (MQ below (gQv G (fun (u : (Nat → Int32)) => post u) (fun (u : (Nat → Int32)) => [cBO hBO bo_width bo_height bo_floor bo_goals bo_live bo_boxes bo_person hBS bo_liveBesideInRow bo_liveBesideInColumn, cI G hBS 64 u]) A) args s 0 0 A) (F0 m 83 ls []) := by
  intro aBS v3 v5 v7 H locs ls h hP hD hS hl
  unfold BO_fillBoxSteps_83 at h
  refine lv_lload_n X.1 X.2.1 dX0_fillBoxSteps_83 rfl (lv_at hl 1 rfl) ?_
  refine lv_lload X.1 X.2.1 dX0_fillBoxSteps_84 (lv_at hl 2 rfl) ?_
  refine lv_lor X.1 X.2.1 dX0_fillBoxSteps_86 ?_
  refine lv_topl (fun v3_1 e_v3_1 => ?_)
  replace h := h v3_1 e_v3_1
  refine lv_lstore_n (lv' := [(3, .long v3_1), (0, .ref hBO), (5, .long v5), (7, .int v7)]) X.1 X.2.1 dX0_fillBoxSteps_87 rfl hl (by decide) rfl (fun ls hl => ?_)
  refine lv_lconst (v := (0 : Int64)) X.1 X.2.1 dX0_fillBoxSteps_88 (by decide) ?_
  refine lv_lstore (lv' := [(10, .long (0 : Int64)), (3, .long v3_1), (0, .ref hBO), (5, .long v5), (7, .int v7)]) X.1 X.2.1 dX0_fillBoxSteps_89 hl (by decide) rfl (fun ls hl => ?_)
  refine lv_iconst (v := (0 : Int32)) X.1 X.2.1 dX0_fillBoxSteps_91 (by decide) ?_
  refine lv_istore (lv' := [(12, .int (0 : Int32)), (10, .long (0 : Int64)), (3, .long v3_1), (0, .ref hBO), (5, .long v5), (7, .int v7)]) X.1 X.2.1 dX0_fillBoxSteps_92 hl (by decide) rfl (fun ls hl => ?_)
  obtain ⟨n', h⟩ := h
  exact s_BO_fillBoxSteps_94 X hk21 n' aBS v3_1 v5 v7 (0 : Int64) (0 : Int32) _ _ _ h hP hD hS (lv_sub hl [3, 2, 4, 5, 1, 0] rfl)
set_option maxHeartbeats 4000000 in
set_option maxRecDepth 100000 in
theorem s_BO_fillBoxSteps_42 {p : Program} {l : Launch} {e : Env} {s : State} {m : MethodId} {args : Array Value} {below : List Frame} {meth : Method} {c : Code} {G : gEnv} {A : Nat → Prop} {hBO : Nat} {hBS : Nat} {bo_width : Int32} {bo_height : Int32} {bo_goals : Int64} {bo_live : Int64} {bo_boxes : Int64} {bo_person : Int64} {bo_liveBesideInRow : Int64} {bo_liveBesideInColumn : Int64} {bo_floor : Int64} {k21 : (Nat → Int32) → Int64 → Int64 → Int32 → Prop} {post : (Nat → Int32) → Prop} (X : gX p m meth c cX0_fillBoxSteps 13 RX0 none s args G A) (hk21 : ∀ (aBS' : (Nat → Int32)) (v3' : Int64) (v5' : Int64) (v7' : Int32) (H : Heap) (locs : List Loc) (ls : Array Slot), k21 aBS' v3' v5' v7' → va_P G.1 gCl [cBO hBO bo_width bo_height bo_floor bo_goals bo_live bo_boxes bo_person hBS bo_liveBesideInRow bo_liveBesideInColumn, cI G hBS 64 aBS'] H → va_D A [cBO hBO bo_width bo_height bo_floor bo_goals bo_live bo_boxes bo_person hBS bo_liveBesideInRow bo_liveBesideInColumn, cI G hBS 64 aBS'] → va_S A s.heap H locs → lv_has ls 13 [(0, .ref hBO), (3, .long v3'), (5, .long v5'), (7, .int v7')] → W p l e rm_BO_fillBoxSteps s m args below meth c H locs 0 0 (MQ below (gQv G (fun (u : (Nat → Int32)) => post u) (fun (u : (Nat → Int32)) => [cBO hBO bo_width bo_height bo_floor bo_goals bo_live bo_boxes bo_person hBS bo_liveBesideInRow bo_liveBesideInColumn, cI G hBS 64 u]) A) args s 0 0 A) (F0 m 21 ls [])) : ∀ (n : Nat) (aBS : (Nat → Int32)) (v3 : Int64) (v5 : Int64) (v7 : Int32) (v8 : Int64) (v10 : Int32) (H : Heap) (locs : List Loc) (ls : Array Slot), BO_fillBoxSteps_42 bo_floor k21 post n aBS v3 v5 v7 v8 v10 → va_P G.1 gCl [cBO hBO bo_width bo_height bo_floor bo_goals bo_live bo_boxes bo_person hBS bo_liveBesideInRow bo_liveBesideInColumn, cI G hBS 64 aBS] H → va_D A [cBO hBO bo_width bo_height bo_floor bo_goals bo_live bo_boxes bo_person hBS bo_liveBesideInRow bo_liveBesideInColumn, cI G hBS 64 aBS] → va_S A s.heap H locs → lv_has ls 13 [(0, .ref hBO), (3, .long v3), (5, .long v5), (7, .int v7), (8, .long v8), (10, .int v10)] → W p l e rm_BO_fillBoxSteps s m args below meth c H locs 0 0 (MQ below (gQv G (fun (u : (Nat → Int32)) => post u) (fun (u : (Nat → Int32)) => [cBO hBO bo_width bo_height bo_floor bo_goals bo_live bo_boxes bo_person hBS bo_liveBesideInRow bo_liveBesideInColumn, cI G hBS 64 u]) A) args s 0 0 A) (F0 m 42 ls []) := by
  intro n
  induction n with
  | zero => intro aBS v3 v5 v7 v8 v10 H locs ls h _ _ _ _; exact h.elim
  | succ n ih =>
    intro aBS v3 v5 v7 v8 v10 H locs ls h hP hD hS hl
    unfold BO_fillBoxSteps_42 at h
    refine lv_iload X.1 X.2.1 dX0_fillBoxSteps_42 (lv_at hl 5 rfl) ?_
    refine lv_bipush (v := (64 : Int32)) X.1 X.2.1 dX0_fillBoxSteps_44 (by decide) ?_
    refine lv_icmp_ge (tgt := 83) X.1 X.2.1 dX0_fillBoxSteps_46 (by decide) (fun hc => ?_) (fun hc => ?_)
    · replace h := Eq.mp (if_pos hc) h
      exact s_BO_fillBoxSteps_83 X hk21 aBS v3 v5 v7 _ _ _ h hP hD hS (lv_sub hl [0, 1, 2, 3] rfl)
    · replace h := Eq.mp (if_neg hc) h
      refine lv_lload X.1 X.2.1 dX0_fillBoxSteps_49 (lv_at hl 4 rfl) ?_
      refine lv_lconst (v := (0 : Int64)) X.1 X.2.1 dX0_fillBoxSteps_51 (by decide) ?_
      refine g_lcmp_eq (tgt := 83) X dX0_fillBoxSteps_52 dX0_fillBoxSteps_53 (by decide) (fun hc => ?_) (fun hc => ?_)
      · replace h := Eq.mp (if_pos hc) h
        exact s_BO_fillBoxSteps_83 X hk21 aBS v3 v5 v7 _ _ _ h hP hD hS (lv_sub hl [0, 1, 2, 3] rfl)
      · replace h := Eq.mp (if_neg hc) h
        refine lv_aload_n X.1 X.2.1 dX0_fillBoxSteps_56 rfl (lv_at hl 0 rfl) ?_
        refine g_get X hP 0 0 7 (v := .ref hBS) rfl rfl inX0 (by decide) fl_X0_9 rfl dX0_fillBoxSteps_57 ?_
        refine lv_lload X.1 X.2.1 dX0_fillBoxSteps_60 (lv_at hl 4 rfl) ?_
        refine g_ci (wr := [cBO hBO bo_width bo_height bo_floor bo_goals bo_live bo_boxes bo_person hBS bo_liveBesideInRow bo_liveBesideInColumn, cI G hBS 64 aBS]) X [] [0, 1] (g_rN (As := [.long v8]) (rest := [.ref hBS]) X (c_PB_spotOf l G v8 _ h _) lk_X0_68 rfl rfl ⟨Nat.le_of_ble_eq_true rfl, Nat.le_of_ble_eq_true rfl⟩ hP hD hS [] rfl rfl rfl hl.1 rfl (Nat.le_of_ble_eq_true rfl) dX0_fillBoxSteps_62 ⟨Nat.le_of_ble_eq_true rfl, Nat.le_of_ble_eq_true rfl⟩) hP hD hS rfl rfl rfl (by decide) (fun r_1 u H locs h hP hD hS => ?_)
        try dsimp only at h
        replace hP := hP.sub (ws' := [cBO hBO bo_width bo_height bo_floor bo_goals bo_live bo_boxes bo_person hBS bo_liveBesideInRow bo_liveBesideInColumn, cI G hBS 64 aBS]) [0, 1] rfl
        replace hD := hD.sub (ws' := [cBO hBO bo_width bo_height bo_floor bo_goals bo_live bo_boxes bo_person hBS bo_liveBesideInRow bo_liveBesideInColumn, cI G hBS 64 aBS]) [0, 1] rfl rfl
        refine lv_iload X.1 X.2.1 dX0_fillBoxSteps_65 (lv_at hl 3 rfl) ?_
        obtain ⟨hin, h⟩ := h
        refine g_ist X hP hD hS 1 rfl hin dX0_fillBoxSteps_67 (fun aBS_2 e_aBS_2 H locs hP hD hS => ?_)
        replace h := h aBS_2 e_aBS_2
        replace hP : va_P G.1 gCl [cBO hBO bo_width bo_height bo_floor bo_goals bo_live bo_boxes bo_person hBS bo_liveBesideInRow bo_liveBesideInColumn, cI G hBS 64 aBS_2] H := hP
        replace hD : va_D A [cBO hBO bo_width bo_height bo_floor bo_goals bo_live bo_boxes bo_person hBS bo_liveBesideInRow bo_liveBesideInColumn, cI G hBS 64 aBS_2] := hD
        refine lv_lload X.1 X.2.1 dX0_fillBoxSteps_68 (lv_at hl 4 rfl) ?_
        refine lv_lload X.1 X.2.1 dX0_fillBoxSteps_70 (lv_at hl 4 rfl) ?_
        refine lv_lconst (v := (1 : Int64)) X.1 X.2.1 dX0_fillBoxSteps_72 (by decide) ?_
        refine lv_lsub X.1 X.2.1 dX0_fillBoxSteps_73 ?_
        refine lv_land X.1 X.2.1 dX0_fillBoxSteps_74 ?_
        refine lv_topl (fun v8_3 e_v8_3 => ?_)
        replace h := h v8_3 e_v8_3
        refine lv_lstore (lv' := [(8, .long v8_3), (0, .ref hBO), (3, .long v3), (5, .long v5), (7, .int v7), (10, .int v10)]) X.1 X.2.1 dX0_fillBoxSteps_75 hl (by decide) rfl (fun ls hl => ?_)
        refine lv_iinc (v := (v10 + (1 : Int32))) (lv' := [(10, .int (v10 + (1 : Int32))), (8, .long v8_3), (0, .ref hBO), (3, .long v3), (5, .long v5), (7, .int v7)]) X.1 X.2.1 dX0_fillBoxSteps_77 hl (k := 5) rfl rfl (by decide) rfl (fun ls hl => ?_)
        refine lv_goto (tgt := 42) X.1 X.2.1 dX0_fillBoxSteps_80 (by decide) ?_
        exact ih aBS_2 v3 v5 v7 v8_3 (v10 + (1 : Int32)) _ _ _ h hP hD hS (lv_sub hl [2, 3, 4, 5, 1, 0] rfl)
set_option maxHeartbeats 4000000 in
set_option maxRecDepth 100000 in
theorem s_BO_fillBoxSteps_21 {p : Program} {l : Launch} {e : Env} {s : State} {m : MethodId} {args : Array Value} {below : List Frame} {meth : Method} {c : Code} {G : gEnv} {A : Nat → Prop} {hBO : Nat} {hBS : Nat} {bo_width : Int32} {bo_height : Int32} {bo_goals : Int64} {bo_live : Int64} {bo_boxes : Int64} {bo_person : Int64} {bo_liveBesideInRow : Int64} {bo_liveBesideInColumn : Int64} {bo_floor : Int64} {post : (Nat → Int32) → Prop} (X : gX p m meth c cX0_fillBoxSteps 13 RX0 none s args G A)  : ∀ (n : Nat) (aBS : (Nat → Int32)) (v3 : Int64) (v5 : Int64) (v7 : Int32) (H : Heap) (locs : List Loc) (ls : Array Slot), BO_fillBoxSteps_21 bo_floor post n aBS v3 v5 v7 → va_P G.1 gCl [cBO hBO bo_width bo_height bo_floor bo_goals bo_live bo_boxes bo_person hBS bo_liveBesideInRow bo_liveBesideInColumn, cI G hBS 64 aBS] H → va_D A [cBO hBO bo_width bo_height bo_floor bo_goals bo_live bo_boxes bo_person hBS bo_liveBesideInRow bo_liveBesideInColumn, cI G hBS 64 aBS] → va_S A s.heap H locs → lv_has ls 13 [(0, .ref hBO), (3, .long v3), (5, .long v5), (7, .int v7)] → W p l e rm_BO_fillBoxSteps s m args below meth c H locs 0 0 (MQ below (gQv G (fun (u : (Nat → Int32)) => post u) (fun (u : (Nat → Int32)) => [cBO hBO bo_width bo_height bo_floor bo_goals bo_live bo_boxes bo_person hBS bo_liveBesideInRow bo_liveBesideInColumn, cI G hBS 64 u]) A) args s 0 0 A) (F0 m 21 ls []) := by
  intro n
  induction n with
  | zero => intro aBS v3 v5 v7 H locs ls h _ _ _ _; exact h.elim
  | succ n ih =>
    intro aBS v3 v5 v7 H locs ls h hP hD hS hl
    unfold BO_fillBoxSteps_21 at h
    refine lv_iload X.1 X.2.1 dX0_fillBoxSteps_21 (lv_at hl 3 rfl) ?_
    refine lv_bipush (v := (64 : Int32)) X.1 X.2.1 dX0_fillBoxSteps_23 (by decide) ?_
    refine lv_icmp_ge (tgt := 149) X.1 X.2.1 dX0_fillBoxSteps_25 (by decide) (fun hc => ?_) (fun hc => ?_)
    · replace h := Eq.mp (if_pos hc) h
      exact g_vret X aBS h hP hD hS dX0_fillBoxSteps_149
    · replace h := Eq.mp (if_neg hc) h
      refine lv_lload X.1 X.2.1 dX0_fillBoxSteps_28 (lv_at hl 2 rfl) ?_
      refine lv_lconst (v := (0 : Int64)) X.1 X.2.1 dX0_fillBoxSteps_30 (by decide) ?_
      refine g_lcmp_eq (tgt := 149) X dX0_fillBoxSteps_31 dX0_fillBoxSteps_32 (by decide) (fun hc => ?_) (fun hc => ?_)
      · replace h := Eq.mp (if_pos hc) h
        exact g_vret X aBS h hP hD hS dX0_fillBoxSteps_149
      · replace h := Eq.mp (if_neg hc) h
        refine lv_lload X.1 X.2.1 dX0_fillBoxSteps_35 (lv_at hl 2 rfl) ?_
        refine lv_lstore (lv' := [(8, .long v5), (0, .ref hBO), (3, .long v3), (5, .long v5), (7, .int v7)]) X.1 X.2.1 dX0_fillBoxSteps_37 hl (by decide) rfl (fun ls hl => ?_)
        refine lv_iconst (v := (0 : Int32)) X.1 X.2.1 dX0_fillBoxSteps_39 (by decide) ?_
        refine lv_istore (lv' := [(10, .int (0 : Int32)), (8, .long v5), (0, .ref hBO), (3, .long v3), (5, .long v5), (7, .int v7)]) X.1 X.2.1 dX0_fillBoxSteps_40 hl (by decide) rfl (fun ls hl => ?_)
        obtain ⟨n', h⟩ := h
        exact s_BO_fillBoxSteps_42 X (fun aBS' v3' v5' v7' H' locs' ls' h' hP' hD' hS' hl' => ih aBS' v3' v5' v7' H' locs' ls' h' hP' hD' hS' hl') n' aBS v3 v5 v7 v5 (0 : Int32) _ _ _ h hP hD hS (lv_sub hl [2, 3, 4, 5, 1, 0] rfl)
set_option maxHeartbeats 4000000 in
set_option maxRecDepth 100000 in
theorem c_BO_fillBoxSteps (l : Launch) (G : gEnv) (hBO : Nat) (hBS : Nat) (bo_width : Int32) (bo_height : Int32) (bo_floor : Int64) (bo_goals : Int64) (bo_live : Int64) (bo_boxes : Int64) (bo_person : Int64) (bo_liveBesideInRow : Int64) (bo_liveBesideInColumn : Int64) (aBS : Nat → Int32) (v1 : Int64) (post : (Nat → Int32) → Prop) (h : BO_fillBoxSteps bo_floor aBS v1 post) (sz : Nat) : Met l yX0_fillBoxSteps (Cond.code yX0_fillBoxSteps cX0_fillBoxSteps 13 none :: wAll) (rm_BO_fillBoxSteps) (gPc G [.ref hBO, .long v1] [cBO hBO bo_width bo_height bo_floor bo_goals bo_live bo_boxes bo_person hBS bo_liveBesideInRow bo_liveBesideInColumn, cI G hBS 64 aBS] sz) (gQv G (fun (u : (Nat → Int32)) => post u) (fun (u : (Nat → Int32)) => [cBO hBO bo_width bo_height bo_floor bo_goals bo_live bo_boxes bo_person hBS bo_liveBesideInRow bo_liveBesideInColumn, cI G hBS 64 u]) (va_A [cBO hBO bo_width bo_height bo_floor bo_goals bo_live bo_boxes bo_person hBS bo_liveBesideInRow bo_liveBesideInColumn, cI G hBS 64 aBS] sz)) 0 0 (va_A [cBO hBO bo_width bo_height bo_floor bo_goals bo_live bo_boxes bo_person hBS bo_liveBesideInRow bo_liveBesideInColumn, cI G hBS 64 aBS] sz) := by
  refine Met.ofW (cc := cX0_fillBoxSteps) (maxL := 13) (ret := none) (by decide) rfl ?_
  intro p e s m args below meth c s₁ B hml hv
  obtain ⟨rfl, hsz, hP, hK, hD0⟩ := hv
  subst hsz
  have X := gX.ofB (ws := [cBO hBO bo_width bo_height bo_floor bo_goals bo_live bo_boxes bo_person hBS bo_liveBesideInRow bo_liveBesideInColumn, cI G hBS 64 aBS]) B hml hK hD0
  have hD := hD0.self (sz := s.heap.size)
  generalize hAe : va_A [cBO hBO bo_width bo_height bo_floor bo_goals bo_live bo_boxes bo_person hBS bo_liveBesideInRow bo_liveBesideInColumn, cI G hBS 64 aBS] s.heap.size = A at X hD ⊢
  have hS : va_S A s.heap s.heap [] := va_S.rf
  have hl := lv_entry ([.ref hBO, .long v1]) (n := 13) (Nat.le_of_ble_eq_true rfl)
  rw [lg_entry_eq]
  generalize (lg_sl ([.ref hBO, .long v1]) ++ List.replicate (13 - (lg_sl ([.ref hBO, .long v1])).length) Slot.unset).toArray = ls at hl ⊢
  have hl : lv_has ls 13 [(0, .ref hBO), (1, .long v1)] := hl
  dsimp only [headSpec]
  unfold BO_fillBoxSteps at h
  refine lv_aload_n X.1 X.2.1 dX0_fillBoxSteps_0 rfl (lv_at hl 0 rfl) ?_
  refine g_get X hP 0 0 7 (v := .ref hBS) rfl rfl inX0 (by decide) fl_X0_9 rfl dX0_fillBoxSteps_1 ?_
  refine lv_iconst (v := (-1 : Int32)) X.1 X.2.1 dX0_fillBoxSteps_4 (by decide) ?_
  refine g_cv (wr := [cBO hBO bo_width bo_height bo_floor bo_goals bo_live bo_boxes bo_person hBS bo_liveBesideInRow bo_liveBesideInColumn]) X [1] [0] (g_rS (As := [.ref hBS, .int (-1 : Int32)]) (rest := []) X (c_fill l G hBS 64 aBS (-1 : Int32) (by decide) _) lk_X0_76 rfl rfl ⟨Nat.le_of_ble_eq_true rfl, Nat.le_of_ble_eq_true rfl⟩ hP hD hS [1] rfl rfl rfl hl.1 rfl (Nat.le_of_ble_eq_true rfl) dX0_fillBoxSteps_5 ⟨Nat.le_of_ble_eq_true rfl, Nat.le_of_ble_eq_true rfl⟩) hP hD hS rfl rfl rfl (by decide) (fun aBS_1 H locs hu hP hD hS => ?_)
  replace h := h aBS_1 hu
  replace hP := hP.sub (ws' := [cBO hBO bo_width bo_height bo_floor bo_goals bo_live bo_boxes bo_person hBS bo_liveBesideInRow bo_liveBesideInColumn, cI G hBS 64 aBS_1]) [0, 1] rfl
  replace hD := hD.sub (ws' := [cBO hBO bo_width bo_height bo_floor bo_goals bo_live bo_boxes bo_person hBS bo_liveBesideInRow bo_liveBesideInColumn, cI G hBS 64 aBS_1]) [0, 1] rfl rfl
  refine lv_lconst (v := (0 : Int64)) X.1 X.2.1 dX0_fillBoxSteps_8 (by decide) ?_
  refine lv_lstore_n (lv' := [(3, .long (0 : Int64)), (0, .ref hBO), (1, .long v1)]) X.1 X.2.1 dX0_fillBoxSteps_9 rfl hl (by decide) rfl (fun ls hl => ?_)
  refine lv_lload_n X.1 X.2.1 dX0_fillBoxSteps_10 rfl (lv_at hl 2 rfl) ?_
  refine lv_aload_n X.1 X.2.1 dX0_fillBoxSteps_11 rfl (lv_at hl 1 rfl) ?_
  refine g_get X hP 0 0 2 (v := .long bo_floor) rfl rfl inX0 (by decide) fl_X0_36 rfl dX0_fillBoxSteps_12 ?_
  refine lv_land X.1 X.2.1 dX0_fillBoxSteps_15 ?_
  refine lv_topl (fun v5_2 e_v5_2 => ?_)
  replace h := h v5_2 e_v5_2
  refine lv_lstore (lv' := [(5, .long v5_2), (3, .long (0 : Int64)), (0, .ref hBO), (1, .long v1)]) X.1 X.2.1 dX0_fillBoxSteps_16 hl (by decide) rfl (fun ls hl => ?_)
  refine lv_iconst (v := (0 : Int32)) X.1 X.2.1 dX0_fillBoxSteps_18 (by decide) ?_
  refine lv_istore (lv' := [(7, .int (0 : Int32)), (5, .long v5_2), (3, .long (0 : Int64)), (0, .ref hBO), (1, .long v1)]) X.1 X.2.1 dX0_fillBoxSteps_19 hl (by decide) rfl (fun ls hl => ?_)
  obtain ⟨n', h⟩ := h
  exact s_BO_fillBoxSteps_21 X  n' aBS_1 (0 : Int64) v5_2 (0 : Int32) _ _ _ h hP hD hS (lv_sub hl [3, 2, 1, 0] rfl)
