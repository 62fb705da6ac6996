abbrev rm_MO_thrown : Room := { frames := 0, cells := 0, slots := 0, locals := 0 }
set_option maxHeartbeats 4000000 in
set_option maxRecDepth 100000 in
theorem c_MO_thrown (l : Launch) (G : gEnv) (hMO : Nat) (hTM : Nat) (hDO : Nat) (hXB : Nat) (hXC : Nat) (hXF : Nat) (hXY : Nat) (hXS : Nat) (hXP : Nat) (hFA : Nat) (hLE : Nat) (mo_thrown : Int32) (mo_size : Int32) (mo_isBoard : Int32) (mo_width : Int32) (mo_height : Int32) (mo_person : Int32) (mo_moves : Int32) (mo_pushes : Int32) (mo_floor : Int64) (mo_goals : Int64) (mo_boxes : Int64) (mo_newFloor : Int64) (mo_newGoals : Int64) (mo_newBoxes : Int64) (mo_newPerson : Int32) (mo_newWidth : Int32) (mo_kept : Int32) (mo_many : Int32) (mo_taken : Int32) (mo_length : Int32) (post : Int32 → Prop) (h : MO_thrown mo_thrown post) (sz : Nat) : Met l yX6_thrown (Cond.code yX6_thrown cX6_thrown 1 (some .int) :: wAll) (rm_MO_thrown) (gPc G [.ref hMO] [cMO hMO mo_thrown mo_size hTM mo_isBoard mo_width mo_height mo_person mo_moves mo_pushes mo_floor mo_goals mo_boxes mo_newFloor mo_newGoals mo_newBoxes mo_newPerson mo_newWidth mo_kept hDO mo_many mo_taken mo_length hXB hXC hXF hXY hXS hXP hFA hLE] sz) (gQi G (fun (r : Int32) (u : Unit) => post r ) (fun (u : Unit) => [cMO hMO mo_thrown mo_size hTM mo_isBoard mo_width mo_height mo_person mo_moves mo_pushes mo_floor mo_goals mo_boxes mo_newFloor mo_newGoals mo_newBoxes mo_newPerson mo_newWidth mo_kept hDO mo_many mo_taken mo_length hXB hXC hXF hXY hXS hXP hFA hLE]) (va_A [cMO hMO mo_thrown mo_size hTM mo_isBoard mo_width mo_height mo_person mo_moves mo_pushes mo_floor mo_goals mo_boxes mo_newFloor mo_newGoals mo_newBoxes mo_newPerson mo_newWidth mo_kept hDO mo_many mo_taken mo_length hXB hXC hXF hXY hXS hXP hFA hLE] sz)) 0 0 (va_A [cMO hMO mo_thrown mo_size hTM mo_isBoard mo_width mo_height mo_person mo_moves mo_pushes mo_floor mo_goals mo_boxes mo_newFloor mo_newGoals mo_newBoxes mo_newPerson mo_newWidth mo_kept hDO mo_many mo_taken mo_length hXB hXC hXF hXY hXS hXP hFA hLE] sz) := by
  refine Met.ofW (cc := cX6_thrown) (maxL := 1) (ret := (some .int)) (by decide) rfl ?_
  intro p e s m args below meth c s₁ B hml hv
  obtain ⟨rfl, hsz, hP, hK, hD0⟩ := hv
  subst hsz
  have X := gX.ofB (ws := [cMO hMO mo_thrown mo_size hTM mo_isBoard mo_width mo_height mo_person mo_moves mo_pushes mo_floor mo_goals mo_boxes mo_newFloor mo_newGoals mo_newBoxes mo_newPerson mo_newWidth mo_kept hDO mo_many mo_taken mo_length hXB hXC hXF hXY hXS hXP hFA hLE]) B hml hK hD0
  have hD := hD0.self (sz := s.heap.size)
  generalize hAe : va_A [cMO hMO mo_thrown mo_size hTM mo_isBoard mo_width mo_height mo_person mo_moves mo_pushes mo_floor mo_goals mo_boxes mo_newFloor mo_newGoals mo_newBoxes mo_newPerson mo_newWidth mo_kept hDO mo_many mo_taken mo_length hXB hXC hXF hXY hXS hXP hFA hLE] s.heap.size = A at X hD ⊢
  have hS : va_S A s.heap s.heap [] := va_S.rf
  have hl := lv_entry ([.ref hMO]) (n := 1) (Nat.le_of_ble_eq_true rfl)
  rw [lg_entry_eq]
  generalize (lg_sl ([.ref hMO]) ++ List.replicate (1 - (lg_sl ([.ref hMO])).length) Slot.unset).toArray = ls at hl ⊢
  have hl : lv_has ls 1 [(0, .ref hMO)] := hl
  dsimp only [headSpec]
  unfold MO_thrown at h
  refine lv_aload_n X.1 X.2.1 dX6_thrown_0 rfl (lv_at hl 0 rfl) ?_
  refine g_get X hP 0 6 0 (v := .int mo_thrown) rfl rfl inX6 (by decide) fl_X6_42 rfl dX6_thrown_1 ?_
  exact g_iret X () h hP hD hS dX6_thrown_4
abbrev rm_MO_throwsIf : Room := { frames := 0, cells := 0, slots := 0, locals := 0 }
set_option maxHeartbeats 4000000 in
set_option maxRecDepth 100000 in
theorem c_MO_throwsIf (l : Launch) (G : gEnv) (hMO : Nat) (hTM : Nat) (hDO : Nat) (hXB : Nat) (hXC : Nat) (hXF : Nat) (hXY : Nat) (hXS : Nat) (hXP : Nat) (hFA : Nat) (hLE : Nat) (mo_thrown : Int32) (mo_size : Int32) (mo_isBoard : Int32) (mo_width : Int32) (mo_height : Int32) (mo_person : Int32) (mo_moves : Int32) (mo_pushes : Int32) (mo_floor : Int64) (mo_goals : Int64) (mo_boxes : Int64) (mo_newFloor : Int64) (mo_newGoals : Int64) (mo_newBoxes : Int64) (mo_newPerson : Int32) (mo_newWidth : Int32) (mo_kept : Int32) (mo_many : Int32) (mo_taken : Int32) (mo_length : Int32) (v1 : Int32) (v2 : Int32) (post : Int32 → Int32 → Prop) (h : MO_throwsIf mo_thrown v1 v2 post) (sz : Nat) : Met l yX6_throwsIf (Cond.code yX6_throwsIf cX6_throwsIf 3 (some .boolean) :: wAll) (rm_MO_throwsIf) (gPc G [.ref hMO, .int v1, .int v2] [cMO hMO mo_thrown mo_size hTM mo_isBoard mo_width mo_height mo_person mo_moves mo_pushes mo_floor mo_goals mo_boxes mo_newFloor mo_newGoals mo_newBoxes mo_newPerson mo_newWidth mo_kept hDO mo_many mo_taken mo_length hXB hXC hXF hXY hXS hXP hFA hLE] sz) (gQi G (fun (r : Int32) (u : Int32) => post r u) (fun (u : Int32) => [cMO hMO u mo_size hTM mo_isBoard mo_width mo_height mo_person mo_moves mo_pushes mo_floor mo_goals mo_boxes mo_newFloor mo_newGoals mo_newBoxes mo_newPerson mo_newWidth mo_kept hDO mo_many mo_taken mo_length hXB hXC hXF hXY hXS hXP hFA hLE]) (va_A [cMO hMO mo_thrown mo_size hTM mo_isBoard mo_width mo_height mo_person mo_moves mo_pushes mo_floor mo_goals mo_boxes mo_newFloor mo_newGoals mo_newBoxes mo_newPerson mo_newWidth mo_kept hDO mo_many mo_taken mo_length hXB hXC hXF hXY hXS hXP hFA hLE] sz)) 0 0 (va_A [cMO hMO mo_thrown mo_size hTM mo_isBoard mo_width mo_height mo_person mo_moves mo_pushes mo_floor mo_goals mo_boxes mo_newFloor mo_newGoals mo_newBoxes mo_newPerson mo_newWidth mo_kept hDO mo_many mo_taken mo_length hXB hXC hXF hXY hXS hXP hFA hLE] sz) := by
  refine Met.ofW (cc := cX6_throwsIf) (maxL := 3) (ret := (some .boolean)) (by decide) rfl ?_
  intro p e s m args below meth c s₁ B hml hv
  obtain ⟨rfl, hsz, hP, hK, hD0⟩ := hv
  subst hsz
  have X := gX.ofB (ws := [cMO hMO mo_thrown mo_size hTM mo_isBoard mo_width mo_height mo_person mo_moves mo_pushes mo_floor mo_goals mo_boxes mo_newFloor mo_newGoals mo_newBoxes mo_newPerson mo_newWidth mo_kept hDO mo_many mo_taken mo_length hXB hXC hXF hXY hXS hXP hFA hLE]) B hml hK hD0
  have hD := hD0.self (sz := s.heap.size)
  generalize hAe : va_A [cMO hMO mo_thrown mo_size hTM mo_isBoard mo_width mo_height mo_person mo_moves mo_pushes mo_floor mo_goals mo_boxes mo_newFloor mo_newGoals mo_newBoxes mo_newPerson mo_newWidth mo_kept hDO mo_many mo_taken mo_length hXB hXC hXF hXY hXS hXP hFA hLE] s.heap.size = A at X hD ⊢
  have hS : va_S A s.heap s.heap [] := va_S.rf
  have hl := lv_entry ([.ref hMO, .int v1, .int v2]) (n := 3) (Nat.le_of_ble_eq_true rfl)
  rw [lg_entry_eq]
  generalize (lg_sl ([.ref hMO, .int v1, .int v2]) ++ List.replicate (3 - (lg_sl ([.ref hMO, .int v1, .int v2])).length) Slot.unset).toArray = ls at hl ⊢
  have hl : lv_has ls 3 [(0, .ref hMO), (1, .int v1), (2, .int v2)] := hl
  dsimp only [headSpec]
  unfold MO_throwsIf at h
  refine lv_aload_n X.1 X.2.1 dX6_throwsIf_0 rfl (lv_at hl 0 rfl) ?_
  refine lv_iload_n X.1 X.2.1 dX6_throwsIf_1 rfl (lv_at hl 2 rfl) ?_
  refine lv_if_eq (tgt := 9) X.1 X.2.1 dX6_throwsIf_2 (by decide) (fun hc => ?_) (fun hc => ?_)
  · replace h := Eq.mp (if_pos hc) h
    refine lv_iconst (v := (0 : Int32)) X.1 X.2.1 dX6_throwsIf_9 (by decide) ?_
    refine g_put X hP hD hS 0 6 0 (v := .int (0 : Int32)) rfl rfl inX6 tyX6 tyX6_ok nmX6 (by decide) fl_X6_42 rfl rfl rfl rfl (Nat.le_of_ble_eq_true rfl) dX6_throwsIf_10 (fun H locs hP hD hS => ?_)
    replace hP : va_P G.1 gCl [cMO hMO (0 : Int32) mo_size hTM mo_isBoard mo_width mo_height mo_person mo_moves mo_pushes mo_floor mo_goals mo_boxes mo_newFloor mo_newGoals mo_newBoxes mo_newPerson mo_newWidth mo_kept hDO mo_many mo_taken mo_length hXB hXC hXF hXY hXS hXP hFA hLE] H := hP
    replace hD : va_D A [cMO hMO (0 : Int32) mo_size hTM mo_isBoard mo_width mo_height mo_person mo_moves mo_pushes mo_floor mo_goals mo_boxes mo_newFloor mo_newGoals mo_newBoxes mo_newPerson mo_newWidth mo_kept hDO mo_many mo_taken mo_length hXB hXC hXF hXY hXS hXP hFA hLE] := hD
    refine lv_iload_n X.1 X.2.1 dX6_throwsIf_13 rfl (lv_at hl 2 rfl) ?_
    obtain ⟨hv, h⟩ := h
    exact g_zret X hv (0 : Int32) h hP hD hS dX6_throwsIf_14
  · replace h := Eq.mp (if_neg hc) h
    refine lv_iload_n X.1 X.2.1 dX6_throwsIf_5 rfl (lv_at hl 1 rfl) ?_
    refine lv_goto (tgt := 10) X.1 X.2.1 dX6_throwsIf_6 (by decide) ?_
    refine g_put X hP hD hS 0 6 0 (v := .int v1) rfl rfl inX6 tyX6 tyX6_ok nmX6 (by decide) fl_X6_42 rfl rfl rfl rfl (Nat.le_of_ble_eq_true rfl) dX6_throwsIf_10 (fun H locs hP hD hS => ?_)
    replace hP : va_P G.1 gCl [cMO hMO v1 mo_size hTM mo_isBoard mo_width mo_height mo_person mo_moves mo_pushes mo_floor mo_goals mo_boxes mo_newFloor mo_newGoals mo_newBoxes mo_newPerson mo_newWidth mo_kept hDO mo_many mo_taken mo_length hXB hXC hXF hXY hXS hXP hFA hLE] H := hP
    replace hD : va_D A [cMO hMO v1 mo_size hTM mo_isBoard mo_width mo_height mo_person mo_moves mo_pushes mo_floor mo_goals mo_boxes mo_newFloor mo_newGoals mo_newBoxes mo_newPerson mo_newWidth mo_kept hDO mo_many mo_taken mo_length hXB hXC hXF hXY hXS hXP hFA hLE] := hD
    refine lv_iload_n X.1 X.2.1 dX6_throwsIf_13 rfl (lv_at hl 2 rfl) ?_
    obtain ⟨hv, h⟩ := h
    exact g_zret X hv v1 h hP hD hS dX6_throwsIf_14
abbrev rm_MO_isCell : Room := { frames := 0, cells := 0, slots := 0, locals := 0 }
set_option maxHeartbeats 4000000 in
set_option maxRecDepth 100000 in
theorem c_MO_isCell (l : Launch) (G : gEnv) (hMO : Nat) (hTM : Nat) (hDO : Nat) (hXB : Nat) (hXC : Nat) (hXF : Nat) (hXY : Nat) (hXS : Nat) (hXP : Nat) (hFA : Nat) (hLE : Nat) (mo_thrown : Int32) (mo_size : Int32) (mo_isBoard : Int32) (mo_width : Int32) (mo_height : Int32) (mo_person : Int32) (mo_moves : Int32) (mo_pushes : Int32) (mo_floor : Int64) (mo_goals : Int64) (mo_boxes : Int64) (mo_newFloor : Int64) (mo_newGoals : Int64) (mo_newBoxes : Int64) (mo_newPerson : Int32) (mo_newWidth : Int32) (mo_kept : Int32) (mo_many : Int32) (mo_taken : Int32) (mo_length : Int32) (v1 : Int32) (v2 : Int32) (post : Int32 → Prop) (h : MO_isCell mo_width mo_height v1 v2 post) (sz : Nat) : Met l yX6_isCell (Cond.code yX6_isCell cX6_isCell 3 (some .boolean) :: wAll) (rm_MO_isCell) (gPc G [.ref hMO, .int v1, .int v2] [cMO hMO mo_thrown mo_size hTM mo_isBoard mo_width mo_height mo_person mo_moves mo_pushes mo_floor mo_goals mo_boxes mo_newFloor mo_newGoals mo_newBoxes mo_newPerson mo_newWidth mo_kept hDO mo_many mo_taken mo_length hXB hXC hXF hXY hXS hXP hFA hLE] sz) (gQi G (fun (r : Int32) (u : Unit) => post r ) (fun (u : Unit) => [cMO hMO mo_thrown mo_size hTM mo_isBoard mo_width mo_height mo_person mo_moves mo_pushes mo_floor mo_goals mo_boxes mo_newFloor mo_newGoals mo_newBoxes mo_newPerson mo_newWidth mo_kept hDO mo_many mo_taken mo_length hXB hXC hXF hXY hXS hXP hFA hLE]) (va_A [cMO hMO mo_thrown mo_size hTM mo_isBoard mo_width mo_height mo_person mo_moves mo_pushes mo_floor mo_goals mo_boxes mo_newFloor mo_newGoals mo_newBoxes mo_newPerson mo_newWidth mo_kept hDO mo_many mo_taken mo_length hXB hXC hXF hXY hXS hXP hFA hLE] sz)) 0 0 (va_A [cMO hMO mo_thrown mo_size hTM mo_isBoard mo_width mo_height mo_person mo_moves mo_pushes mo_floor mo_goals mo_boxes mo_newFloor mo_newGoals mo_newBoxes mo_newPerson mo_newWidth mo_kept hDO mo_many mo_taken mo_length hXB hXC hXF hXY hXS hXP hFA hLE] sz) := by
  refine Met.ofW (cc := cX6_isCell) (maxL := 3) (ret := (some .boolean)) (by decide) rfl ?_
  intro p e s m args below meth c s₁ B hml hv
  obtain ⟨rfl, hsz, hP, hK, hD0⟩ := hv
  subst hsz
  have X := gX.ofB (ws := [cMO hMO mo_thrown mo_size hTM mo_isBoard mo_width mo_height mo_person mo_moves mo_pushes mo_floor mo_goals mo_boxes mo_newFloor mo_newGoals mo_newBoxes mo_newPerson mo_newWidth mo_kept hDO mo_many mo_taken mo_length hXB hXC hXF hXY hXS hXP hFA hLE]) B hml hK hD0
  have hD := hD0.self (sz := s.heap.size)
  generalize hAe : va_A [cMO hMO mo_thrown mo_size hTM mo_isBoard mo_width mo_height mo_person mo_moves mo_pushes mo_floor mo_goals mo_boxes mo_newFloor mo_newGoals mo_newBoxes mo_newPerson mo_newWidth mo_kept hDO mo_many mo_taken mo_length hXB hXC hXF hXY hXS hXP hFA hLE] s.heap.size = A at X hD ⊢
  have hS : va_S A s.heap s.heap [] := va_S.rf
  have hl := lv_entry ([.ref hMO, .int v1, .int v2]) (n := 3) (Nat.le_of_ble_eq_true rfl)
  rw [lg_entry_eq]
  generalize (lg_sl ([.ref hMO, .int v1, .int v2]) ++ List.replicate (3 - (lg_sl ([.ref hMO, .int v1, .int v2])).length) Slot.unset).toArray = ls at hl ⊢
  have hl : lv_has ls 3 [(0, .ref hMO), (1, .int v1), (2, .int v2)] := hl
  dsimp only [headSpec]
  unfold MO_isCell at h
  refine lv_iload_n X.1 X.2.1 dX6_isCell_0 rfl (lv_at hl 1 rfl) ?_
  refine lv_if_lt (tgt := 28) X.1 X.2.1 dX6_isCell_1 (by decide) (fun hc => ?_) (fun hc => ?_)
  · replace h := Eq.mp (if_pos hc) h
    refine lv_iconst (v := (0 : Int32)) X.1 X.2.1 dX6_isCell_28 (by decide) ?_
    exact g_zret X (by decide) () h hP hD hS dX6_isCell_29
  · replace h := Eq.mp (if_neg hc) h
    refine lv_iload_n X.1 X.2.1 dX6_isCell_4 rfl (lv_at hl 1 rfl) ?_
    refine lv_aload_n X.1 X.2.1 dX6_isCell_5 rfl (lv_at hl 0 rfl) ?_
    refine g_get X hP 0 6 4 (v := .int mo_width) rfl rfl inX6 (by decide) fl_X6_46 rfl dX6_isCell_6 ?_
    refine lv_icmp_ge (tgt := 28) X.1 X.2.1 dX6_isCell_9 (by decide) (fun hc => ?_) (fun hc => ?_)
    · replace h := Eq.mp (if_pos hc) h
      refine lv_iconst (v := (0 : Int32)) X.1 X.2.1 dX6_isCell_28 (by decide) ?_
      exact g_zret X (by decide) () h hP hD hS dX6_isCell_29
    · replace h := Eq.mp (if_neg hc) h
      refine lv_iload_n X.1 X.2.1 dX6_isCell_12 rfl (lv_at hl 2 rfl) ?_
      refine lv_if_lt (tgt := 28) X.1 X.2.1 dX6_isCell_13 (by decide) (fun hc => ?_) (fun hc => ?_)
      · replace h := Eq.mp (if_pos hc) h
        refine lv_iconst (v := (0 : Int32)) X.1 X.2.1 dX6_isCell_28 (by decide) ?_
        exact g_zret X (by decide) () h hP hD hS dX6_isCell_29
      · replace h := Eq.mp (if_neg hc) h
        refine lv_iload_n X.1 X.2.1 dX6_isCell_16 rfl (lv_at hl 2 rfl) ?_
        refine lv_aload_n X.1 X.2.1 dX6_isCell_17 rfl (lv_at hl 0 rfl) ?_
        refine g_get X hP 0 6 5 (v := .int mo_height) rfl rfl inX6 (by decide) fl_X6_49 rfl dX6_isCell_18 ?_
        refine lv_icmp_ge (tgt := 28) X.1 X.2.1 dX6_isCell_21 (by decide) (fun hc => ?_) (fun hc => ?_)
        · replace h := Eq.mp (if_pos hc) h
          refine lv_iconst (v := (0 : Int32)) X.1 X.2.1 dX6_isCell_28 (by decide) ?_
          exact g_zret X (by decide) () h hP hD hS dX6_isCell_29
        · replace h := Eq.mp (if_neg hc) h
          refine lv_iconst (v := (1 : Int32)) X.1 X.2.1 dX6_isCell_24 (by decide) ?_
          refine lv_goto (tgt := 29) X.1 X.2.1 dX6_isCell_25 (by decide) ?_
          exact g_zret X (by decide) () h hP hD hS dX6_isCell_29
abbrev rm_MO_has : Room := { frames := 0, cells := 0, slots := 0, locals := 0 }
set_option maxHeartbeats 4000000 in
set_option maxRecDepth 100000 in
theorem c_MO_has (l : Launch) (G : gEnv) (v0 : Int64) (v2 : Int32) (post : Int32 → Prop) (h : MO_has v0 v2 post) (sz : Nat) : Met l yX6_has (Cond.code yX6_has cX6_has 3 (some .boolean) :: wAll) (rm_MO_has) (gPc G [.long v0, .int v2] [] sz) (gQi G (fun (r : Int32) (u : Unit) => post r ) (fun (u : Unit) => []) (va_A [] sz)) 0 0 (va_A [] sz) := by
  refine Met.ofW (cc := cX6_has) (maxL := 3) (ret := (some .boolean)) (by decide) rfl ?_
  intro p e s m args below meth c s₁ B hml hv
  obtain ⟨rfl, hsz, hP, hK, hD0⟩ := hv
  subst hsz
  have X := gX.ofB (ws := []) B hml hK hD0
  have hD := hD0.self (sz := s.heap.size)
  generalize hAe : va_A [] s.heap.size = A at X hD ⊢
  have hS : va_S A s.heap s.heap [] := va_S.rf
  have hl := lv_entry ([.long v0, .int v2]) (n := 3) (Nat.le_of_ble_eq_true rfl)
  rw [lg_entry_eq]
  generalize (lg_sl ([.long v0, .int v2]) ++ List.replicate (3 - (lg_sl ([.long v0, .int v2])).length) Slot.unset).toArray = ls at hl ⊢
  have hl : lv_has ls 3 [(0, .long v0), (2, .int v2)] := hl
  dsimp only [headSpec]
  unfold MO_has at h
  refine lv_iload_n X.1 X.2.1 dX6_has_0 rfl (lv_at hl 1 rfl) ?_
  refine lv_if_lt (tgt := 18) X.1 X.2.1 dX6_has_1 (by decide) (fun hc => ?_) (fun hc => ?_)
  · replace h := Eq.mp (if_pos hc) h
    refine lv_iconst (v := (0 : Int32)) X.1 X.2.1 dX6_has_18 (by decide) ?_
    exact g_zret X (by decide) () h hP hD hS dX6_has_19
  · replace h := Eq.mp (if_neg hc) h
    refine lv_lload_n X.1 X.2.1 dX6_has_4 rfl (lv_at hl 0 rfl) ?_
    refine lv_iload_n X.1 X.2.1 dX6_has_5 rfl (lv_at hl 1 rfl) ?_
    refine lv_lshr X.1 X.2.1 dX6_has_6 rfl ?_
    refine lv_lconst (v := (1 : Int64)) X.1 X.2.1 dX6_has_7 (by decide) ?_
    refine lv_land X.1 X.2.1 dX6_has_8 ?_
    refine lv_lconst (v := (1 : Int64)) X.1 X.2.1 dX6_has_9 (by decide) ?_
    refine g_lcmp_ne (tgt := 18) X dX6_has_10 dX6_has_11 (by decide) (fun hc => ?_) (fun hc => ?_)
    · replace h := Eq.mp (if_neg hc) h
      refine lv_iconst (v := (0 : Int32)) X.1 X.2.1 dX6_has_18 (by decide) ?_
      exact g_zret X (by decide) () h hP hD hS dX6_has_19
    · replace h := Eq.mp (if_pos hc) h
      refine lv_iconst (v := (1 : Int32)) X.1 X.2.1 dX6_has_14 (by decide) ?_
      refine lv_goto (tgt := 19) X.1 X.2.1 dX6_has_15 (by decide) ?_
      exact g_zret X (by decide) () h hP hD hS dX6_has_19
abbrev rm_MO_beside : Room := { frames := 1, cells := 0, slots := 0, locals := 22 }
set_option maxHeartbeats 4000000 in
set_option maxRecDepth 100000 in
theorem s_MO_beside_47 {p : Program} {l : Launch} {e : Env} {s : State} {m : MethodId} {args : Array Value} {below : List Frame} {meth : Method} {c : Code} {G : gEnv} {A : Nat → Prop} {hMO : Nat} {hTM : Nat} {hDO : Nat} {hXB : Nat} {hXC : Nat} {hXF : Nat} {hXY : Nat} {hXS : Nat} {hXP : Nat} {hFA : Nat} {hLE : Nat} {mo_thrown : Int32} {mo_size : Int32} {mo_isBoard : Int32} {mo_person : Int32} {mo_moves : Int32} {mo_pushes : Int32} {mo_floor : Int64} {mo_goals : Int64} {mo_boxes : Int64} {mo_newFloor : Int64} {mo_newGoals : Int64} {mo_newBoxes : Int64} {mo_newPerson : Int32} {mo_newWidth : Int32} {mo_kept : Int32} {mo_many : Int32} {mo_taken : Int32} {mo_length : Int32} {mo_width : Int32} {mo_height : Int32} {post : Int32 → Prop} (X : gX p m meth c cX6_beside 5 RX6 (some .int) s args G A)  : ∀ (v3 : Int32) (t0 : Int32) (t1 : Int32) (H : Heap) (locs : List Loc) (ls : Array Slot), MO_beside_47 mo_width mo_height post v3 t0 t1 → va_P G.1 gCl [cMO hMO mo_thrown mo_size hTM mo_isBoard mo_width mo_height mo_person mo_moves mo_pushes mo_floor mo_goals mo_boxes mo_newFloor mo_newGoals mo_newBoxes mo_newPerson mo_newWidth mo_kept hDO mo_many mo_taken mo_length hXB hXC hXF hXY hXS hXP hFA hLE] H → va_D A [cMO hMO mo_thrown mo_size hTM mo_isBoard mo_width mo_height mo_person mo_moves mo_pushes mo_floor mo_goals mo_boxes mo_newFloor mo_newGoals mo_newBoxes mo_newPerson mo_newWidth mo_kept hDO mo_many mo_taken mo_length hXB hXC hXF hXY hXS hXP hFA hLE] → va_S A s.heap H locs → lv_has ls 5 [(0, .ref hMO), (3, .int v3)] → W p l e rm_MO_beside s m args below meth c H locs 0 0 (MQ below (gQi G (fun (r : Int32) (u : Unit) => post r ) (fun (u : Unit) => [cMO hMO mo_thrown mo_size hTM mo_isBoard mo_width mo_height mo_person mo_moves mo_pushes mo_floor mo_goals mo_boxes mo_newFloor mo_newGoals mo_newBoxes mo_newPerson mo_newWidth mo_kept hDO mo_many mo_taken mo_length hXB hXC hXF hXY hXS hXP hFA hLE]) A) args s 0 0 A) (F0 m 47 ls [.int t1, .int t0]) := by
  intro v3 t0 t1 H locs ls h hP hD hS hl
  unfold MO_beside_47 at h
  refine lv_iadd X.1 X.2.1 dX6_beside_47 ?_
  refine lv_topi (fun v4_1 e_v4_1 => ?_)
  replace h := h v4_1 e_v4_1
  refine lv_istore (lv' := [(4, .int v4_1), (0, .ref hMO), (3, .int v3)]) X.1 X.2.1 dX6_beside_48 hl (by decide) rfl (fun ls hl => ?_)
  refine lv_aload_n X.1 X.2.1 dX6_beside_50 rfl (lv_at hl 1 rfl) ?_
  refine lv_iload_n X.1 X.2.1 dX6_beside_51 rfl (lv_at hl 2 rfl) ?_
  refine lv_iload X.1 X.2.1 dX6_beside_52 (lv_at hl 0 rfl) ?_
  refine g_ci (wr := []) X [0] [] (g_rV (As := [.int v3, .int v4_1]) (rest := []) X (c_MO_isCell l G hMO hTM hDO hXB hXC hXF hXY hXS hXP hFA hLE mo_thrown mo_size mo_isBoard mo_width mo_height mo_person mo_moves mo_pushes mo_floor mo_goals mo_boxes mo_newFloor mo_newGoals mo_newBoxes mo_newPerson mo_newWidth mo_kept mo_many mo_taken mo_length v3 v4_1 _ h _) lk_X6_52 rfl rfl ⟨Nat.le_of_ble_eq_true rfl, Nat.le_of_ble_eq_true rfl⟩ hP hD hS [0] rfl rfl 0 6 rfl rfl rfl hl.1 rfl (Nat.le_of_ble_eq_true rfl) dX6_beside_54 ⟨Nat.le_of_ble_eq_true rfl, Nat.le_of_ble_eq_true rfl⟩) hP hD hS rfl rfl rfl (by decide) (fun r_2 u H locs h hP hD hS => ?_)
  try dsimp only at h
  replace hP := hP.sub (ws' := [cMO hMO mo_thrown mo_size hTM mo_isBoard mo_width mo_height mo_person mo_moves mo_pushes mo_floor mo_goals mo_boxes mo_newFloor mo_newGoals mo_newBoxes mo_newPerson mo_newWidth mo_kept hDO mo_many mo_taken mo_length hXB hXC hXF hXY hXS hXP hFA hLE]) [0] rfl
  replace hD := hD.sub (ws' := [cMO hMO mo_thrown mo_size hTM mo_isBoard mo_width mo_height mo_person mo_moves mo_pushes mo_floor mo_goals mo_boxes mo_newFloor mo_newGoals mo_newBoxes mo_newPerson mo_newWidth mo_kept hDO mo_many mo_taken mo_length hXB hXC hXF hXY hXS hXP hFA hLE]) [0] rfl rfl
  refine lv_if_eq (tgt := 70) X.1 X.2.1 dX6_beside_57 (by decide) (fun hc => ?_) (fun hc => ?_)
  · replace h := Eq.mp (if_pos hc) h
    refine lv_iconst (v := (-1 : Int32)) X.1 X.2.1 dX6_beside_70 (by decide) ?_
    exact g_iret X () h hP hD hS dX6_beside_71
  · replace h := Eq.mp (if_neg hc) h
    refine lv_bipush (v := (8 : Int32)) X.1 X.2.1 dX6_beside_60 (by decide) ?_
    refine lv_iload X.1 X.2.1 dX6_beside_62 (lv_at hl 0 rfl) ?_
    refine lv_imul X.1 X.2.1 dX6_beside_64 ?_
    refine lv_iload_n X.1 X.2.1 dX6_beside_65 rfl (lv_at hl 2 rfl) ?_
    refine lv_iadd X.1 X.2.1 dX6_beside_66 ?_
    refine lv_goto (tgt := 71) X.1 X.2.1 dX6_beside_67 (by decide) ?_
    exact g_iret X () h hP hD hS dX6_beside_71
set_option maxHeartbeats 4000000 in
set_option maxRecDepth 100000 in
theorem s_MO_beside_22 {p : Program} {l : Launch} {e : Env} {s : State} {m : MethodId} {args : Array Value} {below : List Frame} {meth : Method} {c : Code} {G : gEnv} {A : Nat → Prop} {hMO : Nat} {hTM : Nat} {hDO : Nat} {hXB : Nat} {hXC : Nat} {hXF : Nat} {hXY : Nat} {hXS : Nat} {hXP : Nat} {hFA : Nat} {hLE : Nat} {mo_thrown : Int32} {mo_size : Int32} {mo_isBoard : Int32} {mo_person : Int32} {mo_moves : Int32} {mo_pushes : Int32} {mo_floor : Int64} {mo_goals : Int64} {mo_boxes : Int64} {mo_newFloor : Int64} {mo_newGoals : Int64} {mo_newBoxes : Int64} {mo_newPerson : Int32} {mo_newWidth : Int32} {mo_kept : Int32} {mo_many : Int32} {mo_taken : Int32} {mo_length : Int32} {mo_width : Int32} {mo_height : Int32} {post : Int32 → Prop} (X : gX p m meth c cX6_beside 5 RX6 (some .int) s args G A)  : ∀ (v1 : Int32) (v2 : Int32) (t0 : Int32) (t1 : Int32) (H : Heap) (locs : List Loc) (ls : Array Slot), MO_beside_22 mo_width mo_height post v1 v2 t0 t1 → va_P G.1 gCl [cMO hMO mo_thrown mo_size hTM mo_isBoard mo_width mo_height mo_person mo_moves mo_pushes mo_floor mo_goals mo_boxes mo_newFloor mo_newGoals mo_newBoxes mo_newPerson mo_newWidth mo_kept hDO mo_many mo_taken mo_length hXB hXC hXF hXY hXS hXP hFA hLE] H → va_D A [cMO hMO mo_thrown mo_size hTM mo_isBoard mo_width mo_height mo_person mo_moves mo_pushes mo_floor mo_goals mo_boxes mo_newFloor mo_newGoals mo_newBoxes mo_newPerson mo_newWidth mo_kept hDO mo_many mo_taken mo_length hXB hXC hXF hXY hXS hXP hFA hLE] → va_S A s.heap H locs → lv_has ls 5 [(0, .ref hMO), (1, .int v1), (2, .int v2)] → W p l e rm_MO_beside s m args below meth c H locs 0 0 (MQ below (gQi G (fun (r : Int32) (u : Unit) => post r ) (fun (u : Unit) => [cMO hMO mo_thrown mo_size hTM mo_isBoard mo_width mo_height mo_person mo_moves mo_pushes mo_floor mo_goals mo_boxes mo_newFloor mo_newGoals mo_newBoxes mo_newPerson mo_newWidth mo_kept hDO mo_many mo_taken mo_length hXB hXC hXF hXY hXS hXP hFA hLE]) A) args s 0 0 A) (F0 m 22 ls [.int t1, .int t0]) := by
  intro v1 v2 t0 t1 H locs ls h hP hD hS hl
  unfold MO_beside_22 at h
  refine lv_iadd X.1 X.2.1 dX6_beside_22 ?_
  refine lv_topi (fun v3_1 e_v3_1 => ?_)
  replace h := h v3_1 e_v3_1
  refine lv_istore_n (lv' := [(3, .int v3_1), (0, .ref hMO), (1, .int v1), (2, .int v2)]) X.1 X.2.1 dX6_beside_23 rfl hl (by decide) rfl (fun ls hl => ?_)
  refine lv_iload_n X.1 X.2.1 dX6_beside_24 rfl (lv_at hl 2 rfl) ?_
  refine lv_bipush (v := (8 : Int32)) X.1 X.2.1 dX6_beside_25 (by decide) ?_
  refine lv_idiv X.1 X.2.1 dX6_beside_27 (by decide) ?_
  refine lv_iload_n X.1 X.2.1 dX6_beside_28 rfl (lv_at hl 3 rfl) ?_
  refine lv_iconst (v := (1 : Int32)) X.1 X.2.1 dX6_beside_29 (by decide) ?_
  refine lv_icmp_ne (tgt := 37) X.1 X.2.1 dX6_beside_30 (by decide) (fun hc => ?_) (fun hc => ?_)
  · replace h := Eq.mp (if_neg hc) h
    refine lv_iload_n X.1 X.2.1 dX6_beside_37 rfl (lv_at hl 3 rfl) ?_
    refine lv_iconst (v := (3 : Int32)) X.1 X.2.1 dX6_beside_38 (by decide) ?_
    refine lv_icmp_ne (tgt := 46) X.1 X.2.1 dX6_beside_39 (by decide) (fun hc => ?_) (fun hc => ?_)
    · replace h := Eq.mp (if_neg hc) h
      refine lv_iconst (v := (0 : Int32)) X.1 X.2.1 dX6_beside_46 (by decide) ?_
      exact s_MO_beside_47 X  v3_1 (v1 / (8 : Int32)) (0 : Int32) _ _ _ h hP hD hS (lv_sub hl [1, 0] rfl)
    · replace h := Eq.mp (if_pos hc) h
      refine lv_iconst (v := (-1 : Int32)) X.1 X.2.1 dX6_beside_42 (by decide) ?_
      refine lv_goto (tgt := 47) X.1 X.2.1 dX6_beside_43 (by decide) ?_
      exact s_MO_beside_47 X  v3_1 (v1 / (8 : Int32)) (-1 : Int32) _ _ _ h hP hD hS (lv_sub hl [1, 0] rfl)
  · replace h := Eq.mp (if_pos hc) h
    refine lv_iconst (v := (1 : Int32)) X.1 X.2.1 dX6_beside_33 (by decide) ?_
    refine lv_goto (tgt := 47) X.1 X.2.1 dX6_beside_34 (by decide) ?_
    exact s_MO_beside_47 X  v3_1 (v1 / (8 : Int32)) (1 : Int32) _ _ _ h hP hD hS (lv_sub hl [1, 0] rfl)
set_option maxHeartbeats 4000000 in
set_option maxRecDepth 100000 in
theorem c_MO_beside (l : Launch) (G : gEnv) (hMO : Nat) (hTM : Nat) (hDO : Nat) (hXB : Nat) (hXC : Nat) (hXF : Nat) (hXY : Nat) (hXS : Nat) (hXP : Nat) (hFA : Nat) (hLE : Nat) (mo_thrown : Int32) (mo_size : Int32) (mo_isBoard : Int32) (mo_width : Int32) (mo_height : Int32) (mo_person : Int32) (mo_moves : Int32) (mo_pushes : Int32) (mo_floor : Int64) (mo_goals : Int64) (mo_boxes : Int64) (mo_newFloor : Int64) (mo_newGoals : Int64) (mo_newBoxes : Int64) (mo_newPerson : Int32) (mo_newWidth : Int32) (mo_kept : Int32) (mo_many : Int32) (mo_taken : Int32) (mo_length : Int32) (v1 : Int32) (v2 : Int32) (post : Int32 → Prop) (h : MO_beside mo_width mo_height v1 v2 post) (sz : Nat) : Met l yX6_beside (Cond.code yX6_beside cX6_beside 5 (some .int) :: wAll) (rm_MO_beside) (gPc G [.ref hMO, .int v1, .int v2] [cMO hMO mo_thrown mo_size hTM mo_isBoard mo_width mo_height mo_person mo_moves mo_pushes mo_floor mo_goals mo_boxes mo_newFloor mo_newGoals mo_newBoxes mo_newPerson mo_newWidth mo_kept hDO mo_many mo_taken mo_length hXB hXC hXF hXY hXS hXP hFA hLE] sz) (gQi G (fun (r : Int32) (u : Unit) => post r ) (fun (u : Unit) => [cMO hMO mo_thrown mo_size hTM mo_isBoard mo_width mo_height mo_person mo_moves mo_pushes mo_floor mo_goals mo_boxes mo_newFloor mo_newGoals mo_newBoxes mo_newPerson mo_newWidth mo_kept hDO mo_many mo_taken mo_length hXB hXC hXF hXY hXS hXP hFA hLE]) (va_A [cMO hMO mo_thrown mo_size hTM mo_isBoard mo_width mo_height mo_person mo_moves mo_pushes mo_floor mo_goals mo_boxes mo_newFloor mo_newGoals mo_newBoxes mo_newPerson mo_newWidth mo_kept hDO mo_many mo_taken mo_length hXB hXC hXF hXY hXS hXP hFA hLE] sz)) 0 0 (va_A [cMO hMO mo_thrown mo_size hTM mo_isBoard mo_width mo_height mo_person mo_moves mo_pushes mo_floor mo_goals mo_boxes mo_newFloor mo_newGoals mo_newBoxes mo_newPerson mo_newWidth mo_kept hDO mo_many mo_taken mo_length hXB hXC hXF hXY hXS hXP hFA hLE] sz) := by
  refine Met.ofW (cc := cX6_beside) (maxL := 5) (ret := (some .int)) (by decide) rfl ?_
  intro p e s m args below meth c s₁ B hml hv
  obtain ⟨rfl, hsz, hP, hK, hD0⟩ := hv
  subst hsz
  have X := gX.ofB (ws := [cMO hMO mo_thrown mo_size hTM mo_isBoard mo_width mo_height mo_person mo_moves mo_pushes mo_floor mo_goals mo_boxes mo_newFloor mo_newGoals mo_newBoxes mo_newPerson mo_newWidth mo_kept hDO mo_many mo_taken mo_length hXB hXC hXF hXY hXS hXP hFA hLE]) B hml hK hD0
  have hD := hD0.self (sz := s.heap.size)
  generalize hAe : va_A [cMO hMO mo_thrown mo_size hTM mo_isBoard mo_width mo_height mo_person mo_moves mo_pushes mo_floor mo_goals mo_boxes mo_newFloor mo_newGoals mo_newBoxes mo_newPerson mo_newWidth mo_kept hDO mo_many mo_taken mo_length hXB hXC hXF hXY hXS hXP hFA hLE] s.heap.size = A at X hD ⊢
  have hS : va_S A s.heap s.heap [] := va_S.rf
  have hl := lv_entry ([.ref hMO, .int v1, .int v2]) (n := 5) (Nat.le_of_ble_eq_true rfl)
  rw [lg_entry_eq]
  generalize (lg_sl ([.ref hMO, .int v1, .int v2]) ++ List.replicate (5 - (lg_sl ([.ref hMO, .int v1, .int v2])).length) Slot.unset).toArray = ls at hl ⊢
  have hl : lv_has ls 5 [(0, .ref hMO), (1, .int v1), (2, .int v2)] := hl
  dsimp only [headSpec]
  unfold MO_beside at h
  refine lv_iload_n X.1 X.2.1 dX6_beside_0 rfl (lv_at hl 1 rfl) ?_
  refine lv_bipush (v := (8 : Int32)) X.1 X.2.1 dX6_beside_1 (by decide) ?_
  refine lv_irem X.1 X.2.1 dX6_beside_3 (by decide) ?_
  refine lv_iload_n X.1 X.2.1 dX6_beside_4 rfl (lv_at hl 2 rfl) ?_
  refine lv_if_ne (tgt := 12) X.1 X.2.1 dX6_beside_5 (by decide) (fun hc => ?_) (fun hc => ?_)
  · replace h := Eq.mp (if_neg hc) h
    refine lv_iload_n X.1 X.2.1 dX6_beside_12 rfl (lv_at hl 2 rfl) ?_
    refine lv_iconst (v := (2 : Int32)) X.1 X.2.1 dX6_beside_13 (by decide) ?_
    refine lv_icmp_ne (tgt := 21) X.1 X.2.1 dX6_beside_14 (by decide) (fun hc => ?_) (fun hc => ?_)
    · replace h := Eq.mp (if_neg hc) h
      refine lv_iconst (v := (0 : Int32)) X.1 X.2.1 dX6_beside_21 (by decide) ?_
      exact s_MO_beside_22 X  v1 v2 (v1 - v1 / (8 : Int32) * (8 : Int32)) (0 : Int32) _ _ _ h hP hD hS (lv_sub hl [0, 1, 2] rfl)
    · replace h := Eq.mp (if_pos hc) h
      refine lv_iconst (v := (-1 : Int32)) X.1 X.2.1 dX6_beside_17 (by decide) ?_
      refine lv_goto (tgt := 22) X.1 X.2.1 dX6_beside_18 (by decide) ?_
      exact s_MO_beside_22 X  v1 v2 (v1 - v1 / (8 : Int32) * (8 : Int32)) (-1 : Int32) _ _ _ h hP hD hS (lv_sub hl [0, 1, 2] rfl)
  · replace h := Eq.mp (if_pos hc) h
    refine lv_iconst (v := (1 : Int32)) X.1 X.2.1 dX6_beside_8 (by decide) ?_
    refine lv_goto (tgt := 22) X.1 X.2.1 dX6_beside_9 (by decide) ?_
    exact s_MO_beside_22 X  v1 v2 (v1 - v1 / (8 : Int32) * (8 : Int32)) (1 : Int32) _ _ _ h hP hD hS (lv_sub hl [0, 1, 2] rfl)
abbrev rm_MO_against : Room := { frames := 0, cells := 0, slots := 0, locals := 0 }
set_option maxHeartbeats 4000000 in
set_option maxRecDepth 100000 in
theorem c_MO_against (l : Launch) (G : gEnv) (hMO : Nat) (hTM : Nat) (hDO : Nat) (hXB : Nat) (hXC : Nat) (hXF : Nat) (hXY : Nat) (hXS : Nat) (hXP : Nat) (hFA : Nat) (hLE : Nat) (mo_thrown : Int32) (mo_size : Int32) (mo_isBoard : Int32) (mo_width : Int32) (mo_height : Int32) (mo_person : Int32) (mo_moves : Int32) (mo_pushes : Int32) (mo_floor : Int64) (mo_goals : Int64) (mo_boxes : Int64) (mo_newFloor : Int64) (mo_newGoals : Int64) (mo_newBoxes : Int64) (mo_newPerson : Int32) (mo_newWidth : Int32) (mo_kept : Int32) (mo_many : Int32) (mo_taken : Int32) (mo_length : Int32) (v1 : Int32) (post : Int32 → Prop) (h : MO_against v1 post) (sz : Nat) : Met l yX6_against (Cond.code yX6_against cX6_against 2 (some .int) :: wAll) (rm_MO_against) (gPc G [.ref hMO, .int v1] [cMO hMO mo_thrown mo_size hTM mo_isBoard mo_width mo_height mo_person mo_moves mo_pushes mo_floor mo_goals mo_boxes mo_newFloor mo_newGoals mo_newBoxes mo_newPerson mo_newWidth mo_kept hDO mo_many mo_taken mo_length hXB hXC hXF hXY hXS hXP hFA hLE] sz) (gQi G (fun (r : Int32) (u : Unit) => post r ) (fun (u : Unit) => [cMO hMO mo_thrown mo_size hTM mo_isBoard mo_width mo_height mo_person mo_moves mo_pushes mo_floor mo_goals mo_boxes mo_newFloor mo_newGoals mo_newBoxes mo_newPerson mo_newWidth mo_kept hDO mo_many mo_taken mo_length hXB hXC hXF hXY hXS hXP hFA hLE]) (va_A [cMO hMO mo_thrown mo_size hTM mo_isBoard mo_width mo_height mo_person mo_moves mo_pushes mo_floor mo_goals mo_boxes mo_newFloor mo_newGoals mo_newBoxes mo_newPerson mo_newWidth mo_kept hDO mo_many mo_taken mo_length hXB hXC hXF hXY hXS hXP hFA hLE] sz)) 0 0 (va_A [cMO hMO mo_thrown mo_size hTM mo_isBoard mo_width mo_height mo_person mo_moves mo_pushes mo_floor mo_goals mo_boxes mo_newFloor mo_newGoals mo_newBoxes mo_newPerson mo_newWidth mo_kept hDO mo_many mo_taken mo_length hXB hXC hXF hXY hXS hXP hFA hLE] sz) := by
  refine Met.ofW (cc := cX6_against) (maxL := 2) (ret := (some .int)) (by decide) rfl ?_
  intro p e s m args below meth c s₁ B hml hv
  obtain ⟨rfl, hsz, hP, hK, hD0⟩ := hv
  subst hsz
  have X := gX.ofB (ws := [cMO hMO mo_thrown mo_size hTM mo_isBoard mo_width mo_height mo_person mo_moves mo_pushes mo_floor mo_goals mo_boxes mo_newFloor mo_newGoals mo_newBoxes mo_newPerson mo_newWidth mo_kept hDO mo_many mo_taken mo_length hXB hXC hXF hXY hXS hXP hFA hLE]) B hml hK hD0
  have hD := hD0.self (sz := s.heap.size)
  generalize hAe : va_A [cMO hMO mo_thrown mo_size hTM mo_isBoard mo_width mo_height mo_person mo_moves mo_pushes mo_floor mo_goals mo_boxes mo_newFloor mo_newGoals mo_newBoxes mo_newPerson mo_newWidth mo_kept hDO mo_many mo_taken mo_length hXB hXC hXF hXY hXS hXP hFA hLE] s.heap.size = A at X hD ⊢
  have hS : va_S A s.heap s.heap [] := va_S.rf
  have hl := lv_entry ([.ref hMO, .int v1]) (n := 2) (Nat.le_of_ble_eq_true rfl)
  rw [lg_entry_eq]
  generalize (lg_sl ([.ref hMO, .int v1]) ++ List.replicate (2 - (lg_sl ([.ref hMO, .int v1])).length) Slot.unset).toArray = ls at hl ⊢
  have hl : lv_has ls 2 [(0, .ref hMO), (1, .int v1)] := hl
  dsimp only [headSpec]
  unfold MO_against at h
  refine lv_iload_n X.1 X.2.1 dX6_against_0 rfl (lv_at hl 1 rfl) ?_
  refine lv_iconst (v := (2 : Int32)) X.1 X.2.1 dX6_against_1 (by decide) ?_
  refine lv_iadd X.1 X.2.1 dX6_against_2 ?_
  refine lv_iconst (v := (4 : Int32)) X.1 X.2.1 dX6_against_3 (by decide) ?_
  refine lv_irem X.1 X.2.1 dX6_against_4 (by decide) ?_
  exact g_iret X () h hP hD hS dX6_against_5
abbrev rm_MO_number : Room := { frames := 0, cells := 0, slots := 0, locals := 0 }
set_option maxHeartbeats 4000000 in
set_option maxRecDepth 100000 in
theorem c_MO_number (l : Launch) (G : gEnv) (hMO : Nat) (hTM : Nat) (hDO : Nat) (hXB : Nat) (hXC : Nat) (hXF : Nat) (hXY : Nat) (hXS : Nat) (hXP : Nat) (hFA : Nat) (hLE : Nat) (mo_thrown : Int32) (mo_size : Int32) (mo_isBoard : Int32) (mo_width : Int32) (mo_height : Int32) (mo_person : Int32) (mo_moves : Int32) (mo_pushes : Int32) (mo_floor : Int64) (mo_goals : Int64) (mo_boxes : Int64) (mo_newFloor : Int64) (mo_newGoals : Int64) (mo_newBoxes : Int64) (mo_newPerson : Int32) (mo_newWidth : Int32) (mo_kept : Int32) (mo_many : Int32) (mo_taken : Int32) (mo_length : Int32) (v1 : Int32) (post : Int32 → Prop) (h : MO_number mo_width v1 post) (sz : Nat) : Met l yX6_number (Cond.code yX6_number cX6_number 2 (some .int) :: wAll) (rm_MO_number) (gPc G [.ref hMO, .int v1] [cMO hMO mo_thrown mo_size hTM mo_isBoard mo_width mo_height mo_person mo_moves mo_pushes mo_floor mo_goals mo_boxes mo_newFloor mo_newGoals mo_newBoxes mo_newPerson mo_newWidth mo_kept hDO mo_many mo_taken mo_length hXB hXC hXF hXY hXS hXP hFA hLE] sz) (gQi G (fun (r : Int32) (u : Unit) => post r ) (fun (u : Unit) => [cMO hMO mo_thrown mo_size hTM mo_isBoard mo_width mo_height mo_person mo_moves mo_pushes mo_floor mo_goals mo_boxes mo_newFloor mo_newGoals mo_newBoxes mo_newPerson mo_newWidth mo_kept hDO mo_many mo_taken mo_length hXB hXC hXF hXY hXS hXP hFA hLE]) (va_A [cMO hMO mo_thrown mo_size hTM mo_isBoard mo_width mo_height mo_person mo_moves mo_pushes mo_floor mo_goals mo_boxes mo_newFloor mo_newGoals mo_newBoxes mo_newPerson mo_newWidth mo_kept hDO mo_many mo_taken mo_length hXB hXC hXF hXY hXS hXP hFA hLE] sz)) 0 0 (va_A [cMO hMO mo_thrown mo_size hTM mo_isBoard mo_width mo_height mo_person mo_moves mo_pushes mo_floor mo_goals mo_boxes mo_newFloor mo_newGoals mo_newBoxes mo_newPerson mo_newWidth mo_kept hDO mo_many mo_taken mo_length hXB hXC hXF hXY hXS hXP hFA hLE] sz) := by
  refine Met.ofW (cc := cX6_number) (maxL := 2) (ret := (some .int)) (by decide) rfl ?_
  intro p e s m args below meth c s₁ B hml hv
  obtain ⟨rfl, hsz, hP, hK, hD0⟩ := hv
  subst hsz
  have X := gX.ofB (ws := [cMO hMO mo_thrown mo_size hTM mo_isBoard mo_width mo_height mo_person mo_moves mo_pushes mo_floor mo_goals mo_boxes mo_newFloor mo_newGoals mo_newBoxes mo_newPerson mo_newWidth mo_kept hDO mo_many mo_taken mo_length hXB hXC hXF hXY hXS hXP hFA hLE]) B hml hK hD0
  have hD := hD0.self (sz := s.heap.size)
  generalize hAe : va_A [cMO hMO mo_thrown mo_size hTM mo_isBoard mo_width mo_height mo_person mo_moves mo_pushes mo_floor mo_goals mo_boxes mo_newFloor mo_newGoals mo_newBoxes mo_newPerson mo_newWidth mo_kept hDO mo_many mo_taken mo_length hXB hXC hXF hXY hXS hXP hFA hLE] s.heap.size = A at X hD ⊢
  have hS : va_S A s.heap s.heap [] := va_S.rf
  have hl := lv_entry ([.ref hMO, .int v1]) (n := 2) (Nat.le_of_ble_eq_true rfl)
  rw [lg_entry_eq]
  generalize (lg_sl ([.ref hMO, .int v1]) ++ List.replicate (2 - (lg_sl ([.ref hMO, .int v1])).length) Slot.unset).toArray = ls at hl ⊢
  have hl : lv_has ls 2 [(0, .ref hMO), (1, .int v1)] := hl
  dsimp only [headSpec]
  unfold MO_number at h
  refine lv_iload_n X.1 X.2.1 dX6_number_0 rfl (lv_at hl 1 rfl) ?_
  refine lv_bipush (v := (8 : Int32)) X.1 X.2.1 dX6_number_1 (by decide) ?_
  refine lv_idiv X.1 X.2.1 dX6_number_3 (by decide) ?_
  refine lv_aload_n X.1 X.2.1 dX6_number_4 rfl (lv_at hl 0 rfl) ?_
  refine g_get X hP 0 6 4 (v := .int mo_width) rfl rfl inX6 (by decide) fl_X6_46 rfl dX6_number_5 ?_
  refine lv_imul X.1 X.2.1 dX6_number_8 ?_
  refine lv_iload_n X.1 X.2.1 dX6_number_9 rfl (lv_at hl 1 rfl) ?_
  refine lv_bipush (v := (8 : Int32)) X.1 X.2.1 dX6_number_10 (by decide) ?_
  refine lv_irem X.1 X.2.1 dX6_number_12 (by decide) ?_
  refine lv_iadd X.1 X.2.1 dX6_number_13 ?_
  exact g_iret X () h hP hD hS dX6_number_14
abbrev rm_MO_countOf : Room := { frames := 0, cells := 0, slots := 0, locals := 0 }
set_option maxHeartbeats 4000000 in
set_option maxRecDepth 100000 in
theorem s_MO_countOf_4 {p : Program} {l : Launch} {e : Env} {s : State} {m : MethodId} {args : Array Value} {below : List Frame} {meth : Method} {c : Code} {G : gEnv} {A : Nat → Prop} {post : Int32 → Prop} (X : gX p m meth c cX6_countOf 4 RX6 (some .int) s args G A)  : ∀ (n : Nat) (v0 : Int64) (v2 : Int32) (v3 : Int32) (H : Heap) (locs : List Loc) (ls : Array Slot), MO_countOf_4 post n v0 v2 v3 → va_P G.1 gCl [] H → va_D A [] → va_S A s.heap H locs → lv_has ls 4 [(0, .long v0), (2, .int v2), (3, .int v3)] → W p l e rm_MO_countOf s m args below meth c H locs 0 0 (MQ below (gQi G (fun (r : Int32) (u : Unit) => post r ) (fun (u : Unit) => []) A) args s 0 0 A) (F0 m 4 ls []) := by
  intro n
  induction n with
  | zero => intro v0 v2 v3 H locs ls h _ _ _ _; exact h.elim
  | succ n ih =>
    intro v0 v2 v3 H locs ls h hP hD hS hl
    unfold MO_countOf_4 at h
    refine lv_iload_n X.1 X.2.1 dX6_countOf_4 rfl (lv_at hl 2 rfl) ?_
    refine lv_bipush (v := (64 : Int32)) X.1 X.2.1 dX6_countOf_5 (by decide) ?_
    refine lv_icmp_ge (tgt := 25) X.1 X.2.1 dX6_countOf_7 (by decide) (fun hc => ?_) (fun hc => ?_)
    · replace h := Eq.mp (if_pos hc) h
      refine lv_iload_n X.1 X.2.1 dX6_countOf_25 rfl (lv_at hl 1 rfl) ?_
      exact g_iret X () h hP hD hS dX6_countOf_26
    · replace h := Eq.mp (if_neg hc) h
      refine lv_iload_n X.1 X.2.1 dX6_countOf_10 rfl (lv_at hl 1 rfl) ?_
      refine lv_lload_n X.1 X.2.1 dX6_countOf_11 rfl (lv_at hl 0 rfl) ?_
      refine lv_iload_n X.1 X.2.1 dX6_countOf_12 rfl (lv_at hl 2 rfl) ?_
      refine lv_lshr X.1 X.2.1 dX6_countOf_13 rfl ?_
      refine lv_lconst (v := (1 : Int64)) X.1 X.2.1 dX6_countOf_14 (by decide) ?_
      refine lv_land X.1 X.2.1 dX6_countOf_15 ?_
      refine lv_l2i (v := ((v0 >>> (v3.toInt64 &&& 63)) &&& (1 : Int64)).toInt32) X.1 X.2.1 dX6_countOf_16 rfl ?_
      refine lv_iadd X.1 X.2.1 dX6_countOf_17 ?_
      refine lv_topi (fun v2_1 e_v2_1 => ?_)
      replace h := h v2_1 e_v2_1
      refine lv_istore_n (lv' := [(2, .int v2_1), (0, .long v0), (3, .int v3)]) X.1 X.2.1 dX6_countOf_18 rfl hl (by decide) rfl (fun ls hl => ?_)
      refine lv_iinc (v := (v3 + (1 : Int32))) (lv' := [(3, .int (v3 + (1 : Int32))), (2, .int v2_1), (0, .long v0)]) X.1 X.2.1 dX6_countOf_19 hl (k := 2) rfl rfl (by decide) rfl (fun ls hl => ?_)
      refine lv_goto (tgt := 4) X.1 X.2.1 dX6_countOf_22 (by decide) ?_
      exact ih v0 v2_1 (v3 + (1 : Int32)) _ _ _ h hP hD hS (lv_sub hl [2, 1, 0] rfl)
set_option maxHeartbeats 4000000 in
set_option maxRecDepth 100000 in
theorem c_MO_countOf (l : Launch) (G : gEnv) (v0 : Int64) (post : Int32 → Prop) (h : MO_countOf v0 post) (sz : Nat) : Met l yX6_countOf (Cond.code yX6_countOf cX6_countOf 4 (some .int) :: wAll) (rm_MO_countOf) (gPc G [.long v0] [] sz) (gQi G (fun (r : Int32) (u : Unit) => post r ) (fun (u : Unit) => []) (va_A [] sz)) 0 0 (va_A [] sz) := by
  refine Met.ofW (cc := cX6_countOf) (maxL := 4) (ret := (some .int)) (by decide) rfl ?_
  intro p e s m args below meth c s₁ B hml hv
  obtain ⟨rfl, hsz, hP, hK, hD0⟩ := hv
  subst hsz
  have X := gX.ofB (ws := []) B hml hK hD0
  have hD := hD0.self (sz := s.heap.size)
  generalize hAe : va_A [] s.heap.size = A at X hD ⊢
  have hS : va_S A s.heap s.heap [] := va_S.rf
  have hl := lv_entry ([.long v0]) (n := 4) (Nat.le_of_ble_eq_true rfl)
  rw [lg_entry_eq]
  generalize (lg_sl ([.long v0]) ++ List.replicate (4 - (lg_sl ([.long v0])).length) Slot.unset).toArray = ls at hl ⊢
  have hl : lv_has ls 4 [(0, .long v0)] := hl
  dsimp only [headSpec]
  unfold MO_countOf at h
  refine lv_iconst (v := (0 : Int32)) X.1 X.2.1 dX6_countOf_0 (by decide) ?_
  refine lv_istore_n (lv' := [(2, .int (0 : Int32)), (0, .long v0)]) X.1 X.2.1 dX6_countOf_1 rfl hl (by decide) rfl (fun ls hl => ?_)
  refine lv_iconst (v := (0 : Int32)) X.1 X.2.1 dX6_countOf_2 (by decide) ?_
  refine lv_istore_n (lv' := [(3, .int (0 : Int32)), (2, .int (0 : Int32)), (0, .long v0)]) X.1 X.2.1 dX6_countOf_3 rfl hl (by decide) rfl (fun ls hl => ?_)
  obtain ⟨n', h⟩ := h
  exact s_MO_countOf_4 X  n' v0 (0 : Int32) (0 : Int32) _ _ _ h hP hD hS (lv_sub hl [2, 1, 0] rfl)
abbrev rm_MO_unit : Room := { frames := 0, cells := 0, slots := 0, locals := 0 }
set_option maxHeartbeats 4000000 in
set_option maxRecDepth 100000 in
theorem c_MO_unit (l : Launch) (G : gEnv) (hMO : Nat) (hTM : Nat) (hDO : Nat) (hXB : Nat) (hXC : Nat) (hXF : Nat) (hXY : Nat) (hXS : Nat) (hXP : Nat) (hFA : Nat) (hLE : Nat) (mo_thrown : Int32) (mo_size : Int32) (mo_isBoard : Int32) (mo_width : Int32) (mo_height : Int32) (mo_person : Int32) (mo_moves : Int32) (mo_pushes : Int32) (mo_floor : Int64) (mo_goals : Int64) (mo_boxes : Int64) (mo_newFloor : Int64) (mo_newGoals : Int64) (mo_newBoxes : Int64) (mo_newPerson : Int32) (mo_newWidth : Int32) (mo_kept : Int32) (mo_many : Int32) (mo_taken : Int32) (mo_length : Int32) (aTM : Nat → Int32) (v1 : Int32) (post : Int32 → Int32 → Int32 → (Nat → Int32) → Prop) (h : MO_unit mo_thrown mo_size aTM v1 post) (sz : Nat) : Met l yX6_unit (Cond.code yX6_unit cX6_unit 2 (some .boolean) :: wAll) (rm_MO_unit) (gPc G [.ref hMO, .int v1] [cMO hMO mo_thrown mo_size hTM mo_isBoard mo_width mo_height mo_person mo_moves mo_pushes mo_floor mo_goals mo_boxes mo_newFloor mo_newGoals mo_newBoxes mo_newPerson mo_newWidth mo_kept hDO mo_many mo_taken mo_length hXB hXC hXF hXY hXS hXP hFA hLE, cI G hTM 160 aTM] sz) (gQi G (fun (r : Int32) (u : Int32 × Int32 × (Nat → Int32)) => post r u.1 u.2.1 u.2.2) (fun (u : Int32 × Int32 × (Nat → Int32)) => [cMO hMO u.1 u.2.1 hTM mo_isBoard mo_width mo_height mo_person mo_moves mo_pushes mo_floor mo_goals mo_boxes mo_newFloor mo_newGoals mo_newBoxes mo_newPerson mo_newWidth mo_kept hDO mo_many mo_taken mo_length hXB hXC hXF hXY hXS hXP hFA hLE, cI G hTM 160 u.2.2]) (va_A [cMO hMO mo_thrown mo_size hTM mo_isBoard mo_width mo_height mo_person mo_moves mo_pushes mo_floor mo_goals mo_boxes mo_newFloor mo_newGoals mo_newBoxes mo_newPerson mo_newWidth mo_kept hDO mo_many mo_taken mo_length hXB hXC hXF hXY hXS hXP hFA hLE, cI G hTM 160 aTM] sz)) 0 0 (va_A [cMO hMO mo_thrown mo_size hTM mo_isBoard mo_width mo_height mo_person mo_moves mo_pushes mo_floor mo_goals mo_boxes mo_newFloor mo_newGoals mo_newBoxes mo_newPerson mo_newWidth mo_kept hDO mo_many mo_taken mo_length hXB hXC hXF hXY hXS hXP hFA hLE, cI G hTM 160 aTM] sz) := by
  refine Met.ofW (cc := cX6_unit) (maxL := 2) (ret := (some .boolean)) (by decide) rfl ?_
  intro p e s m args below meth c s₁ B hml hv
  obtain ⟨rfl, hsz, hP, hK, hD0⟩ := hv
  subst hsz
  have X := gX.ofB (ws := [cMO hMO mo_thrown mo_size hTM mo_isBoard mo_width mo_height mo_person mo_moves mo_pushes mo_floor mo_goals mo_boxes mo_newFloor mo_newGoals mo_newBoxes mo_newPerson mo_newWidth mo_kept hDO mo_many mo_taken mo_length hXB hXC hXF hXY hXS hXP hFA hLE, cI G hTM 160 aTM]) B hml hK hD0
  have hD := hD0.self (sz := s.heap.size)
  generalize hAe : va_A [cMO hMO mo_thrown mo_size hTM mo_isBoard mo_width mo_height mo_person mo_moves mo_pushes mo_floor mo_goals mo_boxes mo_newFloor mo_newGoals mo_newBoxes mo_newPerson mo_newWidth mo_kept hDO mo_many mo_taken mo_length hXB hXC hXF hXY hXS hXP hFA hLE, cI G hTM 160 aTM] s.heap.size = A at X hD ⊢
  have hS : va_S A s.heap s.heap [] := va_S.rf
  have hl := lv_entry ([.ref hMO, .int v1]) (n := 2) (Nat.le_of_ble_eq_true rfl)
  rw [lg_entry_eq]
  generalize (lg_sl ([.ref hMO, .int v1]) ++ List.replicate (2 - (lg_sl ([.ref hMO, .int v1])).length) Slot.unset).toArray = ls at hl ⊢
  have hl : lv_has ls 2 [(0, .ref hMO), (1, .int v1)] := hl
  dsimp only [headSpec]
  unfold MO_unit at h
  refine lv_aload_n X.1 X.2.1 dX6_unit_0 rfl (lv_at hl 0 rfl) ?_
  refine lv_iconst (v := (0 : Int32)) X.1 X.2.1 dX6_unit_1 (by decide) ?_
  refine g_put X hP hD hS 0 6 0 (v := .int (0 : Int32)) rfl rfl inX6 tyX6 tyX6_ok nmX6 (by decide) fl_X6_42 rfl rfl rfl rfl (Nat.le_of_ble_eq_true rfl) dX6_unit_2 (fun H locs hP hD hS => ?_)
  replace hP : va_P G.1 gCl [cMO hMO (0 : Int32) mo_size hTM mo_isBoard mo_width mo_height mo_person mo_moves mo_pushes mo_floor mo_goals mo_boxes mo_newFloor mo_newGoals mo_newBoxes mo_newPerson mo_newWidth mo_kept hDO mo_many mo_taken mo_length hXB hXC hXF hXY hXS hXP hFA hLE, cI G hTM 160 aTM] H := hP
  replace hD : va_D A [cMO hMO (0 : Int32) mo_size hTM mo_isBoard mo_width mo_height mo_person mo_moves mo_pushes mo_floor mo_goals mo_boxes mo_newFloor mo_newGoals mo_newBoxes mo_newPerson mo_newWidth mo_kept hDO mo_many mo_taken mo_length hXB hXC hXF hXY hXS hXP hFA hLE, cI G hTM 160 aTM] := hD
  refine lv_iload_n X.1 X.2.1 dX6_unit_5 rfl (lv_at hl 1 rfl) ?_
  refine lv_if_lt (tgt := 26) X.1 X.2.1 dX6_unit_6 (by decide) (fun hc => ?_) (fun hc => ?_)
  · replace h := Eq.mp (if_pos hc) h
    refine lv_iconst (v := (0 : Int32)) X.1 X.2.1 dX6_unit_26 (by decide) ?_
    exact g_zret X (by decide) ((0 : Int32), mo_size, aTM) h hP hD hS dX6_unit_27
  · replace h := Eq.mp (if_neg hc) h
    refine lv_iload_n X.1 X.2.1 dX6_unit_9 rfl (lv_at hl 1 rfl) ?_
    refine lv_sipush (v := (255 : Int32)) X.1 X.2.1 dX6_unit_10 (by decide) ?_
    refine lv_icmp_gt (tgt := 26) X.1 X.2.1 dX6_unit_13 (by decide) (fun hc => ?_) (fun hc => ?_)
    · replace h := Eq.mp (if_pos hc) h
      refine lv_iconst (v := (0 : Int32)) X.1 X.2.1 dX6_unit_26 (by decide) ?_
      exact g_zret X (by decide) ((0 : Int32), mo_size, aTM) h hP hD hS dX6_unit_27
    · replace h := Eq.mp (if_neg hc) h
      refine lv_aload_n X.1 X.2.1 dX6_unit_16 rfl (lv_at hl 0 rfl) ?_
      refine g_get X hP 0 6 1 (v := .int mo_size) rfl rfl inX6 (by decide) fl_X6_56 rfl dX6_unit_17 ?_
      refine lv_sipush (v := (160 : Int32)) X.1 X.2.1 dX6_unit_20 (by decide) ?_
      refine lv_icmp_ne (tgt := 28) X.1 X.2.1 dX6_unit_23 (by decide) (fun hc => ?_) (fun hc => ?_)
      · replace h := Eq.mp (if_neg hc) h
        refine lv_aload_n X.1 X.2.1 dX6_unit_28 rfl (lv_at hl 0 rfl) ?_
        refine g_get X hP 0 6 2 (v := .ref hTM) rfl rfl inX6 (by decide) fl_X6_7 rfl dX6_unit_29 ?_
        refine lv_aload_n X.1 X.2.1 dX6_unit_32 rfl (lv_at hl 0 rfl) ?_
        refine g_get X hP 0 6 1 (v := .int mo_size) rfl rfl inX6 (by decide) fl_X6_56 rfl dX6_unit_33 ?_
        refine lv_iload_n X.1 X.2.1 dX6_unit_36 rfl (lv_at hl 1 rfl) ?_
        obtain ⟨hin, h⟩ := h
        refine g_ist X hP hD hS 1 rfl hin dX6_unit_37 (fun aTM_1 e_aTM_1 H locs hP hD hS => ?_)
        replace h := h aTM_1 e_aTM_1
        replace hP : va_P G.1 gCl [cMO hMO (0 : Int32) mo_size hTM mo_isBoard mo_width mo_height mo_person mo_moves mo_pushes mo_floor mo_goals mo_boxes mo_newFloor mo_newGoals mo_newBoxes mo_newPerson mo_newWidth mo_kept hDO mo_many mo_taken mo_length hXB hXC hXF hXY hXS hXP hFA hLE, cI G hTM 160 aTM_1] H := hP
        replace hD : va_D A [cMO hMO (0 : Int32) mo_size hTM mo_isBoard mo_width mo_height mo_person mo_moves mo_pushes mo_floor mo_goals mo_boxes mo_newFloor mo_newGoals mo_newBoxes mo_newPerson mo_newWidth mo_kept hDO mo_many mo_taken mo_length hXB hXC hXF hXY hXS hXP hFA hLE, cI G hTM 160 aTM_1] := hD
        refine lv_aload_n X.1 X.2.1 dX6_unit_38 rfl (lv_at hl 0 rfl) ?_
        refine lv_dup X.1 X.2.1 dX6_unit_39 rfl ?_
        refine g_get X hP 0 6 1 (v := .int mo_size) rfl rfl inX6 (by decide) fl_X6_56 rfl dX6_unit_40 ?_
        refine lv_iconst (v := (1 : Int32)) X.1 X.2.1 dX6_unit_43 (by decide) ?_
        refine lv_iadd X.1 X.2.1 dX6_unit_44 ?_
        refine lv_topi (fun mo_size_2 e_mo_size_2 => ?_)
        replace h := h mo_size_2 e_mo_size_2
        refine g_put X hP hD hS 0 6 1 (v := .int mo_size_2) rfl rfl inX6 tyX6 tyX6_ok nmX6 (by decide) fl_X6_56 rfl rfl rfl rfl (Nat.le_of_ble_eq_true rfl) dX6_unit_45 (fun H locs hP hD hS => ?_)
        replace hP : va_P G.1 gCl [cMO hMO (0 : Int32) mo_size_2 hTM mo_isBoard mo_width mo_height mo_person mo_moves mo_pushes mo_floor mo_goals mo_boxes mo_newFloor mo_newGoals mo_newBoxes mo_newPerson mo_newWidth mo_kept hDO mo_many mo_taken mo_length hXB hXC hXF hXY hXS hXP hFA hLE, cI G hTM 160 aTM_1] H := hP
        replace hD : va_D A [cMO hMO (0 : Int32) mo_size_2 hTM mo_isBoard mo_width mo_height mo_person mo_moves mo_pushes mo_floor mo_goals mo_boxes mo_newFloor mo_newGoals mo_newBoxes mo_newPerson mo_newWidth mo_kept hDO mo_many mo_taken mo_length hXB hXC hXF hXY hXS hXP hFA hLE, cI G hTM 160 aTM_1] := hD
        refine lv_iconst (v := (1 : Int32)) X.1 X.2.1 dX6_unit_48 (by decide) ?_
        exact g_zret X (by decide) ((0 : Int32), mo_size_2, aTM_1) h hP hD hS dX6_unit_49
      · replace h := Eq.mp (if_pos hc) h
        refine lv_iconst (v := (0 : Int32)) X.1 X.2.1 dX6_unit_26 (by decide) ?_
        exact g_zret X (by decide) ((0 : Int32), mo_size, aTM) h hP hD hS dX6_unit_27
abbrev rm_MO_look : Room := { frames := 1, cells := 0, slots := 0, locals := 23 }
set_option maxHeartbeats 4000000 in
set_option maxRecDepth 100000 in
theorem s_MO_look_119 {p : Program} {l : Launch} {e : Env} {s : State} {m : MethodId} {args : Array Value} {below : List Frame} {meth : Method} {c : Code} {G : gEnv} {A : Nat → Prop} {hMO : Nat} {hTM : Nat} {hDO : Nat} {hXB : Nat} {hXC : Nat} {hXF : Nat} {hXY : Nat} {hXS : Nat} {hXP : Nat} {hFA : Nat} {hLE : Nat} {mo_thrown : Int32} {mo_isBoard : Int32} {mo_width : Int32} {mo_height : Int32} {mo_person : Int32} {mo_moves : Int32} {mo_pushes : Int32} {mo_floor : Int64} {mo_goals : Int64} {mo_boxes : Int64} {mo_kept : Int32} {mo_many : Int32} {mo_taken : Int32} {mo_length : Int32} {mo_size : Int32} {aTM : Nat → Int32} {k124 : Int64 → Int64 → Int64 → Int32 → Int32 → Int32 → Int32 → Int32 → Int32 → Int32 → Int32 → Prop} {post : Int32 → Int64 → Int64 → Int64 → Int32 → Int32 → Prop} (X : gX p m meth c cX6_look 10 RX6 (some .int) s args G A) (hk124 : ∀ (mo_newFloor' : Int64) (mo_newGoals' : Int64) (mo_newBoxes' : Int64) (mo_newPerson' : Int32) (mo_newWidth' : Int32) (v1' : Int32) (v2' : Int32) (v3' : Int32) (v4' : Int32) (v5' : Int32) (t0' : Int32) (H : Heap) (locs : List Loc) (ls : Array Slot), k124 mo_newFloor' mo_newGoals' mo_newBoxes' mo_newPerson' mo_newWidth' v1' v2' v3' v4' v5' t0' → va_P G.1 gCl [cMO hMO mo_thrown mo_size hTM mo_isBoard mo_width mo_height mo_person mo_moves mo_pushes mo_floor mo_goals mo_boxes mo_newFloor' mo_newGoals' mo_newBoxes' mo_newPerson' mo_newWidth' mo_kept hDO mo_many mo_taken mo_length hXB hXC hXF hXY hXS hXP hFA hLE, cI G hTM 160 aTM] H → va_D A [cMO hMO mo_thrown mo_size hTM mo_isBoard mo_width mo_height mo_person mo_moves mo_pushes mo_floor mo_goals mo_boxes mo_newFloor' mo_newGoals' mo_newBoxes' mo_newPerson' mo_newWidth' mo_kept hDO mo_many mo_taken mo_length hXB hXC hXF hXY hXS hXP hFA hLE, cI G hTM 160 aTM] → va_S A s.heap H locs → lv_has ls 10 [(0, .ref hMO), (1, .int v1'), (2, .int v2'), (3, .int v3'), (4, .int v4'), (5, .int v5')] → W p l e rm_MO_look s m args below meth c H locs 0 0 (MQ below (gQi G (fun (r : Int32) (u : Int64 × Int64 × Int64 × Int32 × Int32) => post r u.1 u.2.1 u.2.2.1 u.2.2.2.1 u.2.2.2.2) (fun (u : Int64 × Int64 × Int64 × Int32 × Int32) => [cMO hMO mo_thrown mo_size hTM mo_isBoard mo_width mo_height mo_person mo_moves mo_pushes mo_floor mo_goals mo_boxes u.1 u.2.1 u.2.2.1 u.2.2.2.1 u.2.2.2.2 mo_kept hDO mo_many mo_taken mo_length hXB hXC hXF hXY hXS hXP hFA hLE, cI G hTM 160 aTM]) A) args s 0 0 A) (F0 m 124 ls [.int t0'])) : ∀ (mo_newFloor : Int64) (mo_newGoals : Int64) (mo_newBoxes : Int64) (mo_newPerson : Int32) (mo_newWidth : Int32) (v1 : Int32) (v2 : Int32) (v3 : Int32) (v4 : Int32) (v5 : Int32) (H : Heap) (locs : List Loc) (ls : Array Slot), MO_look_119 mo_size aTM k124 post mo_newFloor mo_newGoals mo_newBoxes mo_newPerson mo_newWidth v1 v2 v3 v4 v5 → va_P G.1 gCl [cMO hMO mo_thrown mo_size hTM mo_isBoard mo_width mo_height mo_person mo_moves mo_pushes mo_floor mo_goals mo_boxes mo_newFloor mo_newGoals mo_newBoxes mo_newPerson mo_newWidth mo_kept hDO mo_many mo_taken mo_length hXB hXC hXF hXY hXS hXP hFA hLE, cI G hTM 160 aTM] H → va_D A [cMO hMO mo_thrown mo_size hTM mo_isBoard mo_width mo_height mo_person mo_moves mo_pushes mo_floor mo_goals mo_boxes mo_newFloor mo_newGoals mo_newBoxes mo_newPerson mo_newWidth mo_kept hDO mo_many mo_taken mo_length hXB hXC hXF hXY hXS hXP hFA hLE, cI G hTM 160 aTM] → va_S A s.heap H locs → lv_has ls 10 [(0, .ref hMO), (1, .int v1), (2, .int v2), (3, .int v3), (4, .int v4), (5, .int v5)] → W p l e rm_MO_look s m args below meth c H locs 0 0 (MQ below (gQi G (fun (r : Int32) (u : Int64 × Int64 × Int64 × Int32 × Int32) => post r u.1 u.2.1 u.2.2.1 u.2.2.2.1 u.2.2.2.2) (fun (u : Int64 × Int64 × Int64 × Int32 × Int32) => [cMO hMO mo_thrown mo_size hTM mo_isBoard mo_width mo_height mo_person mo_moves mo_pushes mo_floor mo_goals mo_boxes u.1 u.2.1 u.2.2.1 u.2.2.2.1 u.2.2.2.2 mo_kept hDO mo_many mo_taken mo_length hXB hXC hXF hXY hXS hXP hFA hLE, cI G hTM 160 aTM]) A) args s 0 0 A) (F0 m 119 ls []) := by
  intro mo_newFloor mo_newGoals mo_newBoxes mo_newPerson mo_newWidth v1 v2 v3 v4 v5 H locs ls h hP hD hS hl
  unfold MO_look_119 at h
  refine lv_iconst (v := (1 : Int32)) X.1 X.2.1 dX6_look_119 (by decide) ?_
  refine lv_goto (tgt := 124) X.1 X.2.1 dX6_look_120 (by decide) ?_
  exact hk124 mo_newFloor mo_newGoals mo_newBoxes mo_newPerson mo_newWidth v1 v2 v3 v4 v5 (1 : Int32) _ _ _ h hP hD hS (lv_sub hl [0, 1, 2, 3, 4, 5] rfl)
set_option maxHeartbeats 4000000 in
set_option maxRecDepth 100000 in
theorem s_MO_look_140 {p : Program} {l : Launch} {e : Env} {s : State} {m : MethodId} {args : Array Value} {below : List Frame} {meth : Method} {c : Code} {G : gEnv} {A : Nat → Prop} {hMO : Nat} {hTM : Nat} {hDO : Nat} {hXB : Nat} {hXC : Nat} {hXF : Nat} {hXY : Nat} {hXS : Nat} {hXP : Nat} {hFA : Nat} {hLE : Nat} {mo_thrown : Int32} {mo_isBoard : Int32} {mo_width : Int32} {mo_height : Int32} {mo_person : Int32} {mo_moves : Int32} {mo_pushes : Int32} {mo_floor : Int64} {mo_goals : Int64} {mo_boxes : Int64} {mo_kept : Int32} {mo_many : Int32} {mo_taken : Int32} {mo_length : Int32} {mo_size : Int32} {aTM : Nat → Int32} {k145 : Int64 → Int64 → Int64 → Int32 → Int32 → Int32 → Int32 → Int32 → Int32 → Int32 → Int32 → Int32 → Prop} {post : Int32 → Int64 → Int64 → Int64 → Int32 → Int32 → Prop} (X : gX p m meth c cX6_look 10 RX6 (some .int) s args G A) (hk145 : ∀ (mo_newFloor' : Int64) (mo_newGoals' : Int64) (mo_newBoxes' : Int64) (mo_newPerson' : Int32) (mo_newWidth' : Int32) (v1' : Int32) (v2' : Int32) (v3' : Int32) (v4' : Int32) (v5' : Int32) (v6' : Int32) (t0' : Int32) (H : Heap) (locs : List Loc) (ls : Array Slot), k145 mo_newFloor' mo_newGoals' mo_newBoxes' mo_newPerson' mo_newWidth' v1' v2' v3' v4' v5' v6' t0' → va_P G.1 gCl [cMO hMO mo_thrown mo_size hTM mo_isBoard mo_width mo_height mo_person mo_moves mo_pushes mo_floor mo_goals mo_boxes mo_newFloor' mo_newGoals' mo_newBoxes' mo_newPerson' mo_newWidth' mo_kept hDO mo_many mo_taken mo_length hXB hXC hXF hXY hXS hXP hFA hLE, cI G hTM 160 aTM] H → va_D A [cMO hMO mo_thrown mo_size hTM mo_isBoard mo_width mo_height mo_person mo_moves mo_pushes mo_floor mo_goals mo_boxes mo_newFloor' mo_newGoals' mo_newBoxes' mo_newPerson' mo_newWidth' mo_kept hDO mo_many mo_taken mo_length hXB hXC hXF hXY hXS hXP hFA hLE, cI G hTM 160 aTM] → va_S A s.heap H locs → lv_has ls 10 [(0, .ref hMO), (1, .int v1'), (2, .int v2'), (3, .int v3'), (4, .int v4'), (5, .int v5'), (6, .int v6')] → W p l e rm_MO_look s m args below meth c H locs 0 0 (MQ below (gQi G (fun (r : Int32) (u : Int64 × Int64 × Int64 × Int32 × Int32) => post r u.1 u.2.1 u.2.2.1 u.2.2.2.1 u.2.2.2.2) (fun (u : Int64 × Int64 × Int64 × Int32 × Int32) => [cMO hMO mo_thrown mo_size hTM mo_isBoard mo_width mo_height mo_person mo_moves mo_pushes mo_floor mo_goals mo_boxes u.1 u.2.1 u.2.2.1 u.2.2.2.1 u.2.2.2.2 mo_kept hDO mo_many mo_taken mo_length hXB hXC hXF hXY hXS hXP hFA hLE, cI G hTM 160 aTM]) A) args s 0 0 A) (F0 m 145 ls [.int t0'])) : ∀ (mo_newFloor : Int64) (mo_newGoals : Int64) (mo_newBoxes : Int64) (mo_newPerson : Int32) (mo_newWidth : Int32) (v1 : Int32) (v2 : Int32) (v3 : Int32) (v4 : Int32) (v5 : Int32) (v6 : Int32) (H : Heap) (locs : List Loc) (ls : Array Slot), MO_look_140 mo_size aTM k145 post mo_newFloor mo_newGoals mo_newBoxes mo_newPerson mo_newWidth v1 v2 v3 v4 v5 v6 → va_P G.1 gCl [cMO hMO mo_thrown mo_size hTM mo_isBoard mo_width mo_height mo_person mo_moves mo_pushes mo_floor mo_goals mo_boxes mo_newFloor mo_newGoals mo_newBoxes mo_newPerson mo_newWidth mo_kept hDO mo_many mo_taken mo_length hXB hXC hXF hXY hXS hXP hFA hLE, cI G hTM 160 aTM] H → va_D A [cMO hMO mo_thrown mo_size hTM mo_isBoard mo_width mo_height mo_person mo_moves mo_pushes mo_floor mo_goals mo_boxes mo_newFloor mo_newGoals mo_newBoxes mo_newPerson mo_newWidth mo_kept hDO mo_many mo_taken mo_length hXB hXC hXF hXY hXS hXP hFA hLE, cI G hTM 160 aTM] → va_S A s.heap H locs → lv_has ls 10 [(0, .ref hMO), (1, .int v1), (2, .int v2), (3, .int v3), (4, .int v4), (5, .int v5), (6, .int v6)] → W p l e rm_MO_look s m args below meth c H locs 0 0 (MQ below (gQi G (fun (r : Int32) (u : Int64 × Int64 × Int64 × Int32 × Int32) => post r u.1 u.2.1 u.2.2.1 u.2.2.2.1 u.2.2.2.2) (fun (u : Int64 × Int64 × Int64 × Int32 × Int32) => [cMO hMO mo_thrown mo_size hTM mo_isBoard mo_width mo_height mo_person mo_moves mo_pushes mo_floor mo_goals mo_boxes u.1 u.2.1 u.2.2.1 u.2.2.2.1 u.2.2.2.2 mo_kept hDO mo_many mo_taken mo_length hXB hXC hXF hXY hXS hXP hFA hLE, cI G hTM 160 aTM]) A) args s 0 0 A) (F0 m 140 ls []) := by
  intro mo_newFloor mo_newGoals mo_newBoxes mo_newPerson mo_newWidth v1 v2 v3 v4 v5 v6 H locs ls h hP hD hS hl
  unfold MO_look_140 at h
  refine lv_iconst (v := (1 : Int32)) X.1 X.2.1 dX6_look_140 (by decide) ?_
  refine lv_goto (tgt := 145) X.1 X.2.1 dX6_look_141 (by decide) ?_
  exact hk145 mo_newFloor mo_newGoals mo_newBoxes mo_newPerson mo_newWidth v1 v2 v3 v4 v5 v6 (1 : Int32) _ _ _ h hP hD hS (lv_sub hl [0, 1, 2, 3, 4, 5, 6] rfl)
set_option maxHeartbeats 4000000 in
set_option maxRecDepth 100000 in
theorem s_MO_look_339 {p : Program} {l : Launch} {e : Env} {s : State} {m : MethodId} {args : Array Value} {below : List Frame} {meth : Method} {c : Code} {G : gEnv} {A : Nat → Prop} {hMO : Nat} {hTM : Nat} {hDO : Nat} {hXB : Nat} {hXC : Nat} {hXF : Nat} {hXY : Nat} {hXS : Nat} {hXP : Nat} {hFA : Nat} {hLE : Nat} {mo_thrown : Int32} {mo_isBoard : Int32} {mo_width : Int32} {mo_height : Int32} {mo_person : Int32} {mo_moves : Int32} {mo_pushes : Int32} {mo_floor : Int64} {mo_goals : Int64} {mo_boxes : Int64} {mo_kept : Int32} {mo_many : Int32} {mo_taken : Int32} {mo_length : Int32} {mo_size : Int32} {aTM : Nat → Int32} {k31 : Int64 → Int64 → Int64 → Int32 → Int32 → Int32 → Int32 → Int32 → Prop} {post : Int32 → Int64 → Int64 → Int64 → Int32 → Int32 → Prop} (X : gX p m meth c cX6_look 10 RX6 (some .int) s args G A) (hk31 : ∀ (mo_newFloor' : Int64) (mo_newGoals' : Int64) (mo_newBoxes' : Int64) (mo_newPerson' : Int32) (mo_newWidth' : Int32) (v1' : Int32) (v2' : Int32) (v3' : Int32) (H : Heap) (locs : List Loc) (ls : Array Slot), k31 mo_newFloor' mo_newGoals' mo_newBoxes' mo_newPerson' mo_newWidth' v1' v2' v3' → va_P G.1 gCl [cMO hMO mo_thrown mo_size hTM mo_isBoard mo_width mo_height mo_person mo_moves mo_pushes mo_floor mo_goals mo_boxes mo_newFloor' mo_newGoals' mo_newBoxes' mo_newPerson' mo_newWidth' mo_kept hDO mo_many mo_taken mo_length hXB hXC hXF hXY hXS hXP hFA hLE, cI G hTM 160 aTM] H → va_D A [cMO hMO mo_thrown mo_size hTM mo_isBoard mo_width mo_height mo_person mo_moves mo_pushes mo_floor mo_goals mo_boxes mo_newFloor' mo_newGoals' mo_newBoxes' mo_newPerson' mo_newWidth' mo_kept hDO mo_many mo_taken mo_length hXB hXC hXF hXY hXS hXP hFA hLE, cI G hTM 160 aTM] → va_S A s.heap H locs → lv_has ls 10 [(0, .ref hMO), (1, .int v1'), (2, .int v2'), (3, .int v3')] → W p l e rm_MO_look s m args below meth c H locs 0 0 (MQ below (gQi G (fun (r : Int32) (u : Int64 × Int64 × Int64 × Int32 × Int32) => post r u.1 u.2.1 u.2.2.1 u.2.2.2.1 u.2.2.2.2) (fun (u : Int64 × Int64 × Int64 × Int32 × Int32) => [cMO hMO mo_thrown mo_size hTM mo_isBoard mo_width mo_height mo_person mo_moves mo_pushes mo_floor mo_goals mo_boxes u.1 u.2.1 u.2.2.1 u.2.2.2.1 u.2.2.2.2 mo_kept hDO mo_many mo_taken mo_length hXB hXC hXF hXY hXS hXP hFA hLE, cI G hTM 160 aTM]) A) args s 0 0 A) (F0 m 31 ls [])) : ∀ (mo_newFloor : Int64) (mo_newGoals : Int64) (mo_newBoxes : Int64) (mo_newPerson : Int32) (mo_newWidth : Int32) (v1 : Int32) (v2 : Int32) (v3 : Int32) (t1 : Int32) (H : Heap) (locs : List Loc) (ls : Array Slot), MO_look_339 mo_size aTM k31 post mo_newFloor mo_newGoals mo_newBoxes mo_newPerson mo_newWidth v1 v2 v3 t1 → va_P G.1 gCl [cMO hMO mo_thrown mo_size hTM mo_isBoard mo_width mo_height mo_person mo_moves mo_pushes mo_floor mo_goals mo_boxes mo_newFloor mo_newGoals mo_newBoxes mo_newPerson mo_newWidth mo_kept hDO mo_many mo_taken mo_length hXB hXC hXF hXY hXS hXP hFA hLE, cI G hTM 160 aTM] H → va_D A [cMO hMO mo_thrown mo_size hTM mo_isBoard mo_width mo_height mo_person mo_moves mo_pushes mo_floor mo_goals mo_boxes mo_newFloor mo_newGoals mo_newBoxes mo_newPerson mo_newWidth mo_kept hDO mo_many mo_taken mo_length hXB hXC hXF hXY hXS hXP hFA hLE, cI G hTM 160 aTM] → va_S A s.heap H locs → lv_has ls 10 [(0, .ref hMO), (1, .int v1), (2, .int v2), (3, .int v3)] → W p l e rm_MO_look s m args below meth c H locs 0 0 (MQ below (gQi G (fun (r : Int32) (u : Int64 × Int64 × Int64 × Int32 × Int32) => post r u.1 u.2.1 u.2.2.1 u.2.2.2.1 u.2.2.2.2) (fun (u : Int64 × Int64 × Int64 × Int32 × Int32) => [cMO hMO mo_thrown mo_size hTM mo_isBoard mo_width mo_height mo_person mo_moves mo_pushes mo_floor mo_goals mo_boxes u.1 u.2.1 u.2.2.1 u.2.2.2.1 u.2.2.2.2 mo_kept hDO mo_many mo_taken mo_length hXB hXC hXF hXY hXS hXP hFA hLE, cI G hTM 160 aTM]) A) args s 0 0 A) (F0 m 339 ls [.int t1, .ref hMO]) := by
  intro mo_newFloor mo_newGoals mo_newBoxes mo_newPerson mo_newWidth v1 v2 v3 t1 H locs ls h hP hD hS hl
  unfold MO_look_339 at h
  refine g_put X hP hD hS 0 6 15 (v := .int t1) rfl rfl inX6 tyX6 tyX6_ok nmX6 (by decide) fl_X6_69 rfl rfl rfl rfl (Nat.le_of_ble_eq_true rfl) dX6_look_339 (fun H locs hP hD hS => ?_)
  replace hP : va_P G.1 gCl [cMO hMO mo_thrown mo_size hTM mo_isBoard mo_width mo_height mo_person mo_moves mo_pushes mo_floor mo_goals mo_boxes mo_newFloor mo_newGoals mo_newBoxes t1 mo_newWidth mo_kept hDO mo_many mo_taken mo_length hXB hXC hXF hXY hXS hXP hFA hLE, cI G hTM 160 aTM] H := hP
  replace hD : va_D A [cMO hMO mo_thrown mo_size hTM mo_isBoard mo_width mo_height mo_person mo_moves mo_pushes mo_floor mo_goals mo_boxes mo_newFloor mo_newGoals mo_newBoxes t1 mo_newWidth mo_kept hDO mo_many mo_taken mo_length hXB hXC hXF hXY hXS hXP hFA hLE, cI G hTM 160 aTM] := hD
  refine lv_iinc (v := (v1 + (1 : Int32))) (lv' := [(1, .int (v1 + (1 : Int32))), (0, .ref hMO), (2, .int v2), (3, .int v3)]) X.1 X.2.1 dX6_look_342 hl (k := 1) rfl rfl (by decide) rfl (fun ls hl => ?_)
  refine lv_aload_n X.1 X.2.1 dX6_look_345 rfl (lv_at hl 1 rfl) ?_
  refine lv_iload_n X.1 X.2.1 dX6_look_346 rfl (lv_at hl 0 rfl) ?_
  refine lv_aload_n X.1 X.2.1 dX6_look_347 rfl (lv_at hl 1 rfl) ?_
  refine g_get X hP 0 6 16 (v := .int mo_newWidth) rfl rfl inX6 (by decide) fl_X6_72 rfl dX6_look_348 ?_
  refine lv_icmp_le (tgt := 358) X.1 X.2.1 dX6_look_351 (by decide) (fun hc => ?_) (fun hc => ?_)
  · replace h := Eq.mp (if_pos hc) h
    refine lv_aload_n X.1 X.2.1 dX6_look_358 rfl (lv_at hl 1 rfl) ?_
    refine g_get X hP 0 6 16 (v := .int mo_newWidth) rfl rfl inX6 (by decide) fl_X6_72 rfl dX6_look_359 ?_
    refine g_put X hP hD hS 0 6 16 (v := .int mo_newWidth) rfl rfl inX6 tyX6 tyX6_ok nmX6 (by decide) fl_X6_72 rfl rfl rfl rfl (Nat.le_of_ble_eq_true rfl) dX6_look_362 (fun H locs hP hD hS => ?_)
    replace hP : va_P G.1 gCl [cMO hMO mo_thrown mo_size hTM mo_isBoard mo_width mo_height mo_person mo_moves mo_pushes mo_floor mo_goals mo_boxes mo_newFloor mo_newGoals mo_newBoxes t1 mo_newWidth mo_kept hDO mo_many mo_taken mo_length hXB hXC hXF hXY hXS hXP hFA hLE, cI G hTM 160 aTM] H := hP
    replace hD : va_D A [cMO hMO mo_thrown mo_size hTM mo_isBoard mo_width mo_height mo_person mo_moves mo_pushes mo_floor mo_goals mo_boxes mo_newFloor mo_newGoals mo_newBoxes t1 mo_newWidth mo_kept hDO mo_many mo_taken mo_length hXB hXC hXF hXY hXS hXP hFA hLE, cI G hTM 160 aTM] := hD
    refine lv_iinc (v := (v3 + (1 : Int32))) (lv' := [(3, .int (v3 + (1 : Int32))), (1, .int (v1 + (1 : Int32))), (0, .ref hMO), (2, .int v2)]) X.1 X.2.1 dX6_look_365 hl (k := 3) rfl rfl (by decide) rfl (fun ls hl => ?_)
    refine lv_goto (tgt := 31) X.1 X.2.1 dX6_look_368 (by decide) ?_
    exact hk31 mo_newFloor mo_newGoals mo_newBoxes t1 mo_newWidth (v1 + (1 : Int32)) v2 (v3 + (1 : Int32)) _ _ _ h hP hD hS (lv_sub hl [2, 1, 3, 0] rfl)
  · replace h := Eq.mp (if_neg hc) h
    refine lv_iload_n X.1 X.2.1 dX6_look_354 rfl (lv_at hl 0 rfl) ?_
    refine lv_goto (tgt := 362) X.1 X.2.1 dX6_look_355 (by decide) ?_
    refine lv_topi (fun mo_newWidth_1 e_mo_newWidth_1 => ?_)
    replace h := h mo_newWidth_1 e_mo_newWidth_1
    refine g_put X hP hD hS 0 6 16 (v := .int mo_newWidth_1) rfl rfl inX6 tyX6 tyX6_ok nmX6 (by decide) fl_X6_72 rfl rfl rfl rfl (Nat.le_of_ble_eq_true rfl) dX6_look_362 (fun H locs hP hD hS => ?_)
    replace hP : va_P G.1 gCl [cMO hMO mo_thrown mo_size hTM mo_isBoard mo_width mo_height mo_person mo_moves mo_pushes mo_floor mo_goals mo_boxes mo_newFloor mo_newGoals mo_newBoxes t1 mo_newWidth_1 mo_kept hDO mo_many mo_taken mo_length hXB hXC hXF hXY hXS hXP hFA hLE, cI G hTM 160 aTM] H := hP
    replace hD : va_D A [cMO hMO mo_thrown mo_size hTM mo_isBoard mo_width mo_height mo_person mo_moves mo_pushes mo_floor mo_goals mo_boxes mo_newFloor mo_newGoals mo_newBoxes t1 mo_newWidth_1 mo_kept hDO mo_many mo_taken mo_length hXB hXC hXF hXY hXS hXP hFA hLE, cI G hTM 160 aTM] := hD
    refine lv_iinc (v := (v3 + (1 : Int32))) (lv' := [(3, .int (v3 + (1 : Int32))), (1, .int (v1 + (1 : Int32))), (0, .ref hMO), (2, .int v2)]) X.1 X.2.1 dX6_look_365 hl (k := 3) rfl rfl (by decide) rfl (fun ls hl => ?_)
    refine lv_goto (tgt := 31) X.1 X.2.1 dX6_look_368 (by decide) ?_
    exact hk31 mo_newFloor mo_newGoals mo_newBoxes t1 mo_newWidth_1 (v1 + (1 : Int32)) v2 (v3 + (1 : Int32)) _ _ _ h hP hD hS (lv_sub hl [2, 1, 3, 0] rfl)
set_option maxHeartbeats 4000000 in
set_option maxRecDepth 100000 in
theorem s_MO_look_317 {p : Program} {l : Launch} {e : Env} {s : State} {m : MethodId} {args : Array Value} {below : List Frame} {meth : Method} {c : Code} {G : gEnv} {A : Nat → Prop} {hMO : Nat} {hTM : Nat} {hDO : Nat} {hXB : Nat} {hXC : Nat} {hXF : Nat} {hXY : Nat} {hXS : Nat} {hXP : Nat} {hFA : Nat} {hLE : Nat} {mo_thrown : Int32} {mo_isBoard : Int32} {mo_width : Int32} {mo_height : Int32} {mo_person : Int32} {mo_moves : Int32} {mo_pushes : Int32} {mo_floor : Int64} {mo_goals : Int64} {mo_boxes : Int64} {mo_kept : Int32} {mo_many : Int32} {mo_taken : Int32} {mo_length : Int32} {mo_size : Int32} {aTM : Nat → Int32} {k31 : Int64 → Int64 → Int64 → Int32 → Int32 → Int32 → Int32 → Int32 → Prop} {post : Int32 → Int64 → Int64 → Int64 → Int32 → Int32 → Prop} (X : gX p m meth c cX6_look 10 RX6 (some .int) s args G A) (hk31 : ∀ (mo_newFloor' : Int64) (mo_newGoals' : Int64) (mo_newBoxes' : Int64) (mo_newPerson' : Int32) (mo_newWidth' : Int32) (v1' : Int32) (v2' : Int32) (v3' : Int32) (H : Heap) (locs : List Loc) (ls : Array Slot), k31 mo_newFloor' mo_newGoals' mo_newBoxes' mo_newPerson' mo_newWidth' v1' v2' v3' → va_P G.1 gCl [cMO hMO mo_thrown mo_size hTM mo_isBoard mo_width mo_height mo_person mo_moves mo_pushes mo_floor mo_goals mo_boxes mo_newFloor' mo_newGoals' mo_newBoxes' mo_newPerson' mo_newWidth' mo_kept hDO mo_many mo_taken mo_length hXB hXC hXF hXY hXS hXP hFA hLE, cI G hTM 160 aTM] H → va_D A [cMO hMO mo_thrown mo_size hTM mo_isBoard mo_width mo_height mo_person mo_moves mo_pushes mo_floor mo_goals mo_boxes mo_newFloor' mo_newGoals' mo_newBoxes' mo_newPerson' mo_newWidth' mo_kept hDO mo_many mo_taken mo_length hXB hXC hXF hXY hXS hXP hFA hLE, cI G hTM 160 aTM] → va_S A s.heap H locs → lv_has ls 10 [(0, .ref hMO), (1, .int v1'), (2, .int v2'), (3, .int v3')] → W p l e rm_MO_look s m args below meth c H locs 0 0 (MQ below (gQi G (fun (r : Int32) (u : Int64 × Int64 × Int64 × Int32 × Int32) => post r u.1 u.2.1 u.2.2.1 u.2.2.2.1 u.2.2.2.2) (fun (u : Int64 × Int64 × Int64 × Int32 × Int32) => [cMO hMO mo_thrown mo_size hTM mo_isBoard mo_width mo_height mo_person mo_moves mo_pushes mo_floor mo_goals mo_boxes u.1 u.2.1 u.2.2.1 u.2.2.2.1 u.2.2.2.2 mo_kept hDO mo_many mo_taken mo_length hXB hXC hXF hXY hXS hXP hFA hLE, cI G hTM 160 aTM]) A) args s 0 0 A) (F0 m 31 ls [])) : ∀ (mo_newFloor : Int64) (mo_newGoals : Int64) (mo_newBoxes : Int64) (mo_newPerson : Int32) (mo_newWidth : Int32) (v1 : Int32) (v2 : Int32) (v3 : Int32) (v7 : Int32) (t1 : Int64) (H : Heap) (locs : List Loc) (ls : Array Slot), MO_look_317 mo_size aTM k31 post mo_newFloor mo_newGoals mo_newBoxes mo_newPerson mo_newWidth v1 v2 v3 v7 t1 → va_P G.1 gCl [cMO hMO mo_thrown mo_size hTM mo_isBoard mo_width mo_height mo_person mo_moves mo_pushes mo_floor mo_goals mo_boxes mo_newFloor mo_newGoals mo_newBoxes mo_newPerson mo_newWidth mo_kept hDO mo_many mo_taken mo_length hXB hXC hXF hXY hXS hXP hFA hLE, cI G hTM 160 aTM] H → va_D A [cMO hMO mo_thrown mo_size hTM mo_isBoard mo_width mo_height mo_person mo_moves mo_pushes mo_floor mo_goals mo_boxes mo_newFloor mo_newGoals mo_newBoxes mo_newPerson mo_newWidth mo_kept hDO mo_many mo_taken mo_length hXB hXC hXF hXY hXS hXP hFA hLE, cI G hTM 160 aTM] → va_S A s.heap H locs → lv_has ls 10 [(0, .ref hMO), (1, .int v1), (2, .int v2), (3, .int v3), (7, .int v7)] → W p l e rm_MO_look s m args below meth c H locs 0 0 (MQ below (gQi G (fun (r : Int32) (u : Int64 × Int64 × Int64 × Int32 × Int32) => post r u.1 u.2.1 u.2.2.1 u.2.2.2.1 u.2.2.2.2) (fun (u : Int64 × Int64 × Int64 × Int32 × Int32) => [cMO hMO mo_thrown mo_size hTM mo_isBoard mo_width mo_height mo_person mo_moves mo_pushes mo_floor mo_goals mo_boxes u.1 u.2.1 u.2.2.1 u.2.2.2.1 u.2.2.2.2 mo_kept hDO mo_many mo_taken mo_length hXB hXC hXF hXY hXS hXP hFA hLE, cI G hTM 160 aTM]) A) args s 0 0 A) (F0 m 317 ls [.long t1, .ref hMO]) := by
  intro mo_newFloor mo_newGoals mo_newBoxes mo_newPerson mo_newWidth v1 v2 v3 v7 t1 H locs ls h hP hD hS hl
  unfold MO_look_317 at h
  refine g_put X hP hD hS 0 6 14 (v := .long t1) rfl rfl inX6 tyX6 tyX6_ok nmX6 (by decide) fl_X6_66 rfl rfl rfl rfl (Nat.le_of_ble_eq_true rfl) dX6_look_317 (fun H locs hP hD hS => ?_)
  replace hP : va_P G.1 gCl [cMO hMO mo_thrown mo_size hTM mo_isBoard mo_width mo_height mo_person mo_moves mo_pushes mo_floor mo_goals mo_boxes mo_newFloor mo_newGoals t1 mo_newPerson mo_newWidth mo_kept hDO mo_many mo_taken mo_length hXB hXC hXF hXY hXS hXP hFA hLE, cI G hTM 160 aTM] H := hP
  replace hD : va_D A [cMO hMO mo_thrown mo_size hTM mo_isBoard mo_width mo_height mo_person mo_moves mo_pushes mo_floor mo_goals mo_boxes mo_newFloor mo_newGoals t1 mo_newPerson mo_newWidth mo_kept hDO mo_many mo_taken mo_length hXB hXC hXF hXY hXS hXP hFA hLE, cI G hTM 160 aTM] := hD
  refine lv_aload_n X.1 X.2.1 dX6_look_320 rfl (lv_at hl 0 rfl) ?_
  refine lv_iload X.1 X.2.1 dX6_look_321 (lv_at hl 4 rfl) ?_
  refine lv_if_eq (tgt := 335) X.1 X.2.1 dX6_look_323 (by decide) (fun hc => ?_) (fun hc => ?_)
  · replace h := Eq.mp (if_pos hc) h
    refine lv_aload_n X.1 X.2.1 dX6_look_335 rfl (lv_at hl 0 rfl) ?_
    refine g_get X hP 0 6 15 (v := .int mo_newPerson) rfl rfl inX6 (by decide) fl_X6_69 rfl dX6_look_336 ?_
    exact s_MO_look_339 X hk31 mo_newFloor mo_newGoals t1 mo_newPerson mo_newWidth v1 v2 v3 mo_newPerson _ _ _ h hP hD hS (lv_sub hl [0, 1, 2, 3] rfl)
  · replace h := Eq.mp (if_neg hc) h
    refine lv_bipush (v := (8 : Int32)) X.1 X.2.1 dX6_look_326 (by decide) ?_
    refine lv_iload_n X.1 X.2.1 dX6_look_328 rfl (lv_at hl 2 rfl) ?_
    refine lv_imul X.1 X.2.1 dX6_look_329 ?_
    refine lv_iload_n X.1 X.2.1 dX6_look_330 rfl (lv_at hl 1 rfl) ?_
    refine lv_iadd X.1 X.2.1 dX6_look_331 ?_
    refine lv_goto (tgt := 339) X.1 X.2.1 dX6_look_332 (by decide) ?_
    exact s_MO_look_339 X hk31 mo_newFloor mo_newGoals t1 mo_newPerson mo_newWidth v1 v2 v3 (((8 : Int32) * v2) + v1) _ _ _ h hP hD hS (lv_sub hl [0, 1, 2, 3] rfl)
set_option maxHeartbeats 4000000 in
set_option maxRecDepth 100000 in
theorem s_MO_look_294 {p : Program} {l : Launch} {e : Env} {s : State} {m : MethodId} {args : Array Value} {below : List Frame} {meth : Method} {c : Code} {G : gEnv} {A : Nat → Prop} {hMO : Nat} {hTM : Nat} {hDO : Nat} {hXB : Nat} {hXC : Nat} {hXF : Nat} {hXY : Nat} {hXS : Nat} {hXP : Nat} {hFA : Nat} {hLE : Nat} {mo_thrown : Int32} {mo_isBoard : Int32} {mo_width : Int32} {mo_height : Int32} {mo_person : Int32} {mo_moves : Int32} {mo_pushes : Int32} {mo_floor : Int64} {mo_goals : Int64} {mo_boxes : Int64} {mo_kept : Int32} {mo_many : Int32} {mo_taken : Int32} {mo_length : Int32} {mo_size : Int32} {aTM : Nat → Int32} {k31 : Int64 → Int64 → Int64 → Int32 → Int32 → Int32 → Int32 → Int32 → Prop} {post : Int32 → Int64 → Int64 → Int64 → Int32 → Int32 → Prop} (X : gX p m meth c cX6_look 10 RX6 (some .int) s args G A) (hk31 : ∀ (mo_newFloor' : Int64) (mo_newGoals' : Int64) (mo_newBoxes' : Int64) (mo_newPerson' : Int32) (mo_newWidth' : Int32) (v1' : Int32) (v2' : Int32) (v3' : Int32) (H : Heap) (locs : List Loc) (ls : Array Slot), k31 mo_newFloor' mo_newGoals' mo_newBoxes' mo_newPerson' mo_newWidth' v1' v2' v3' → va_P G.1 gCl [cMO hMO mo_thrown mo_size hTM mo_isBoard mo_width mo_height mo_person mo_moves mo_pushes mo_floor mo_goals mo_boxes mo_newFloor' mo_newGoals' mo_newBoxes' mo_newPerson' mo_newWidth' mo_kept hDO mo_many mo_taken mo_length hXB hXC hXF hXY hXS hXP hFA hLE, cI G hTM 160 aTM] H → va_D A [cMO hMO mo_thrown mo_size hTM mo_isBoard mo_width mo_height mo_person mo_moves mo_pushes mo_floor mo_goals mo_boxes mo_newFloor' mo_newGoals' mo_newBoxes' mo_newPerson' mo_newWidth' mo_kept hDO mo_many mo_taken mo_length hXB hXC hXF hXY hXS hXP hFA hLE, cI G hTM 160 aTM] → va_S A s.heap H locs → lv_has ls 10 [(0, .ref hMO), (1, .int v1'), (2, .int v2'), (3, .int v3')] → W p l e rm_MO_look s m args below meth c H locs 0 0 (MQ below (gQi G (fun (r : Int32) (u : Int64 × Int64 × Int64 × Int32 × Int32) => post r u.1 u.2.1 u.2.2.1 u.2.2.2.1 u.2.2.2.2) (fun (u : Int64 × Int64 × Int64 × Int32 × Int32) => [cMO hMO mo_thrown mo_size hTM mo_isBoard mo_width mo_height mo_person mo_moves mo_pushes mo_floor mo_goals mo_boxes u.1 u.2.1 u.2.2.1 u.2.2.2.1 u.2.2.2.2 mo_kept hDO mo_many mo_taken mo_length hXB hXC hXF hXY hXS hXP hFA hLE, cI G hTM 160 aTM]) A) args s 0 0 A) (F0 m 31 ls [])) : ∀ (mo_newFloor : Int64) (mo_newGoals : Int64) (mo_newBoxes : Int64) (mo_newPerson : Int32) (mo_newWidth : Int32) (v1 : Int32) (v2 : Int32) (v3 : Int32) (v6 : Int32) (v7 : Int32) (v8 : Int64) (t1 : Int64) (H : Heap) (locs : List Loc) (ls : Array Slot), MO_look_294 mo_size aTM k31 post mo_newFloor mo_newGoals mo_newBoxes mo_newPerson mo_newWidth v1 v2 v3 v6 v7 v8 t1 → va_P G.1 gCl [cMO hMO mo_thrown mo_size hTM mo_isBoard mo_width mo_height mo_person mo_moves mo_pushes mo_floor mo_goals mo_boxes mo_newFloor mo_newGoals mo_newBoxes mo_newPerson mo_newWidth mo_kept hDO mo_many mo_taken mo_length hXB hXC hXF hXY hXS hXP hFA hLE, cI G hTM 160 aTM] H → va_D A [cMO hMO mo_thrown mo_size hTM mo_isBoard mo_width mo_height mo_person mo_moves mo_pushes mo_floor mo_goals mo_boxes mo_newFloor mo_newGoals mo_newBoxes mo_newPerson mo_newWidth mo_kept hDO mo_many mo_taken mo_length hXB hXC hXF hXY hXS hXP hFA hLE, cI G hTM 160 aTM] → va_S A s.heap H locs → lv_has ls 10 [(0, .ref hMO), (1, .int v1), (2, .int v2), (3, .int v3), (6, .int v6), (7, .int v7), (8, .long v8)] → W p l e rm_MO_look s m args below meth c H locs 0 0 (MQ below (gQi G (fun (r : Int32) (u : Int64 × Int64 × Int64 × Int32 × Int32) => post r u.1 u.2.1 u.2.2.1 u.2.2.2.1 u.2.2.2.2) (fun (u : Int64 × Int64 × Int64 × Int32 × Int32) => [cMO hMO mo_thrown mo_size hTM mo_isBoard mo_width mo_height mo_person mo_moves mo_pushes mo_floor mo_goals mo_boxes u.1 u.2.1 u.2.2.1 u.2.2.2.1 u.2.2.2.2 mo_kept hDO mo_many mo_taken mo_length hXB hXC hXF hXY hXS hXP hFA hLE, cI G hTM 160 aTM]) A) args s 0 0 A) (F0 m 294 ls [.long t1, .ref hMO]) := by
  intro mo_newFloor mo_newGoals mo_newBoxes mo_newPerson mo_newWidth v1 v2 v3 v6 v7 v8 t1 H locs ls h hP hD hS hl
  unfold MO_look_294 at h
  refine g_put X hP hD hS 0 6 13 (v := .long t1) rfl rfl inX6 tyX6 tyX6_ok nmX6 (by decide) fl_X6_63 rfl rfl rfl rfl (Nat.le_of_ble_eq_true rfl) dX6_look_294 (fun H locs hP hD hS => ?_)
  replace hP : va_P G.1 gCl [cMO hMO mo_thrown mo_size hTM mo_isBoard mo_width mo_height mo_person mo_moves mo_pushes mo_floor mo_goals mo_boxes mo_newFloor t1 mo_newBoxes mo_newPerson mo_newWidth mo_kept hDO mo_many mo_taken mo_length hXB hXC hXF hXY hXS hXP hFA hLE, cI G hTM 160 aTM] H := hP
  replace hD : va_D A [cMO hMO mo_thrown mo_size hTM mo_isBoard mo_width mo_height mo_person mo_moves mo_pushes mo_floor mo_goals mo_boxes mo_newFloor t1 mo_newBoxes mo_newPerson mo_newWidth mo_kept hDO mo_many mo_taken mo_length hXB hXC hXF hXY hXS hXP hFA hLE, cI G hTM 160 aTM] := hD
  refine lv_aload_n X.1 X.2.1 dX6_look_297 rfl (lv_at hl 0 rfl) ?_
  refine lv_iload X.1 X.2.1 dX6_look_298 (lv_at hl 4 rfl) ?_
  refine lv_if_eq (tgt := 313) X.1 X.2.1 dX6_look_300 (by decide) (fun hc => ?_) (fun hc => ?_)
  · replace h := Eq.mp (if_pos hc) h
    refine lv_aload_n X.1 X.2.1 dX6_look_313 rfl (lv_at hl 0 rfl) ?_
    refine g_get X hP 0 6 14 (v := .long mo_newBoxes) rfl rfl inX6 (by decide) fl_X6_66 rfl dX6_look_314 ?_
    exact s_MO_look_317 X hk31 mo_newFloor t1 mo_newBoxes mo_newPerson mo_newWidth v1 v2 v3 v7 mo_newBoxes _ _ _ h hP hD hS (lv_sub hl [0, 1, 2, 3, 5] rfl)
  · replace h := Eq.mp (if_neg hc) h
    refine lv_aload_n X.1 X.2.1 dX6_look_303 rfl (lv_at hl 0 rfl) ?_
    refine g_get X hP 0 6 14 (v := .long mo_newBoxes) rfl rfl inX6 (by decide) fl_X6_66 rfl dX6_look_304 ?_
    refine lv_lload X.1 X.2.1 dX6_look_307 (lv_at hl 6 rfl) ?_
    refine lv_lor X.1 X.2.1 dX6_look_309 ?_
    refine lv_goto (tgt := 317) X.1 X.2.1 dX6_look_310 (by decide) ?_
    exact s_MO_look_317 X hk31 mo_newFloor t1 mo_newBoxes mo_newPerson mo_newWidth v1 v2 v3 v7 (mo_newBoxes ||| v8) _ _ _ h hP hD hS (lv_sub hl [0, 1, 2, 3, 5] rfl)
set_option maxHeartbeats 4000000 in
set_option maxRecDepth 100000 in
theorem s_MO_look_271 {p : Program} {l : Launch} {e : Env} {s : State} {m : MethodId} {args : Array Value} {below : List Frame} {meth : Method} {c : Code} {G : gEnv} {A : Nat → Prop} {hMO : Nat} {hTM : Nat} {hDO : Nat} {hXB : Nat} {hXC : Nat} {hXF : Nat} {hXY : Nat} {hXS : Nat} {hXP : Nat} {hFA : Nat} {hLE : Nat} {mo_thrown : Int32} {mo_isBoard : Int32} {mo_width : Int32} {mo_height : Int32} {mo_person : Int32} {mo_moves : Int32} {mo_pushes : Int32} {mo_floor : Int64} {mo_goals : Int64} {mo_boxes : Int64} {mo_kept : Int32} {mo_many : Int32} {mo_taken : Int32} {mo_length : Int32} {mo_size : Int32} {aTM : Nat → Int32} {k31 : Int64 → Int64 → Int64 → Int32 → Int32 → Int32 → Int32 → Int32 → Prop} {post : Int32 → Int64 → Int64 → Int64 → Int32 → Int32 → Prop} (X : gX p m meth c cX6_look 10 RX6 (some .int) s args G A) (hk31 : ∀ (mo_newFloor' : Int64) (mo_newGoals' : Int64) (mo_newBoxes' : Int64) (mo_newPerson' : Int32) (mo_newWidth' : Int32) (v1' : Int32) (v2' : Int32) (v3' : Int32) (H : Heap) (locs : List Loc) (ls : Array Slot), k31 mo_newFloor' mo_newGoals' mo_newBoxes' mo_newPerson' mo_newWidth' v1' v2' v3' → va_P G.1 gCl [cMO hMO mo_thrown mo_size hTM mo_isBoard mo_width mo_height mo_person mo_moves mo_pushes mo_floor mo_goals mo_boxes mo_newFloor' mo_newGoals' mo_newBoxes' mo_newPerson' mo_newWidth' mo_kept hDO mo_many mo_taken mo_length hXB hXC hXF hXY hXS hXP hFA hLE, cI G hTM 160 aTM] H → va_D A [cMO hMO mo_thrown mo_size hTM mo_isBoard mo_width mo_height mo_person mo_moves mo_pushes mo_floor mo_goals mo_boxes mo_newFloor' mo_newGoals' mo_newBoxes' mo_newPerson' mo_newWidth' mo_kept hDO mo_many mo_taken mo_length hXB hXC hXF hXY hXS hXP hFA hLE, cI G hTM 160 aTM] → va_S A s.heap H locs → lv_has ls 10 [(0, .ref hMO), (1, .int v1'), (2, .int v2'), (3, .int v3')] → W p l e rm_MO_look s m args below meth c H locs 0 0 (MQ below (gQi G (fun (r : Int32) (u : Int64 × Int64 × Int64 × Int32 × Int32) => post r u.1 u.2.1 u.2.2.1 u.2.2.2.1 u.2.2.2.2) (fun (u : Int64 × Int64 × Int64 × Int32 × Int32) => [cMO hMO mo_thrown mo_size hTM mo_isBoard mo_width mo_height mo_person mo_moves mo_pushes mo_floor mo_goals mo_boxes u.1 u.2.1 u.2.2.1 u.2.2.2.1 u.2.2.2.2 mo_kept hDO mo_many mo_taken mo_length hXB hXC hXF hXY hXS hXP hFA hLE, cI G hTM 160 aTM]) A) args s 0 0 A) (F0 m 31 ls [])) : ∀ (mo_newFloor : Int64) (mo_newGoals : Int64) (mo_newBoxes : Int64) (mo_newPerson : Int32) (mo_newWidth : Int32) (v1 : Int32) (v2 : Int32) (v3 : Int32) (v5 : Int32) (v6 : Int32) (v7 : Int32) (v8 : Int64) (t1 : Int64) (H : Heap) (locs : List Loc) (ls : Array Slot), MO_look_271 mo_size aTM k31 post mo_newFloor mo_newGoals mo_newBoxes mo_newPerson mo_newWidth v1 v2 v3 v5 v6 v7 v8 t1 → va_P G.1 gCl [cMO hMO mo_thrown mo_size hTM mo_isBoard mo_width mo_height mo_person mo_moves mo_pushes mo_floor mo_goals mo_boxes mo_newFloor mo_newGoals mo_newBoxes mo_newPerson mo_newWidth mo_kept hDO mo_many mo_taken mo_length hXB hXC hXF hXY hXS hXP hFA hLE, cI G hTM 160 aTM] H → va_D A [cMO hMO mo_thrown mo_size hTM mo_isBoard mo_width mo_height mo_person mo_moves mo_pushes mo_floor mo_goals mo_boxes mo_newFloor mo_newGoals mo_newBoxes mo_newPerson mo_newWidth mo_kept hDO mo_many mo_taken mo_length hXB hXC hXF hXY hXS hXP hFA hLE, cI G hTM 160 aTM] → va_S A s.heap H locs → lv_has ls 10 [(0, .ref hMO), (1, .int v1), (2, .int v2), (3, .int v3), (5, .int v5), (6, .int v6), (7, .int v7), (8, .long v8)] → W p l e rm_MO_look s m args below meth c H locs 0 0 (MQ below (gQi G (fun (r : Int32) (u : Int64 × Int64 × Int64 × Int32 × Int32) => post r u.1 u.2.1 u.2.2.1 u.2.2.2.1 u.2.2.2.2) (fun (u : Int64 × Int64 × Int64 × Int32 × Int32) => [cMO hMO mo_thrown mo_size hTM mo_isBoard mo_width mo_height mo_person mo_moves mo_pushes mo_floor mo_goals mo_boxes u.1 u.2.1 u.2.2.1 u.2.2.2.1 u.2.2.2.2 mo_kept hDO mo_many mo_taken mo_length hXB hXC hXF hXY hXS hXP hFA hLE, cI G hTM 160 aTM]) A) args s 0 0 A) (F0 m 271 ls [.long t1, .ref hMO]) := by
  intro mo_newFloor mo_newGoals mo_newBoxes mo_newPerson mo_newWidth v1 v2 v3 v5 v6 v7 v8 t1 H locs ls h hP hD hS hl
  unfold MO_look_271 at h
  refine g_put X hP hD hS 0 6 12 (v := .long t1) rfl rfl inX6 tyX6 tyX6_ok nmX6 (by decide) fl_X6_59 rfl rfl rfl rfl (Nat.le_of_ble_eq_true rfl) dX6_look_271 (fun H locs hP hD hS => ?_)
  replace hP : va_P G.1 gCl [cMO hMO mo_thrown mo_size hTM mo_isBoard mo_width mo_height mo_person mo_moves mo_pushes mo_floor mo_goals mo_boxes t1 mo_newGoals mo_newBoxes mo_newPerson mo_newWidth mo_kept hDO mo_many mo_taken mo_length hXB hXC hXF hXY hXS hXP hFA hLE, cI G hTM 160 aTM] H := hP
  replace hD : va_D A [cMO hMO mo_thrown mo_size hTM mo_isBoard mo_width mo_height mo_person mo_moves mo_pushes mo_floor mo_goals mo_boxes t1 mo_newGoals mo_newBoxes mo_newPerson mo_newWidth mo_kept hDO mo_many mo_taken mo_length hXB hXC hXF hXY hXS hXP hFA hLE, cI G hTM 160 aTM] := hD
  refine lv_aload_n X.1 X.2.1 dX6_look_274 rfl (lv_at hl 0 rfl) ?_
  refine lv_iload X.1 X.2.1 dX6_look_275 (lv_at hl 4 rfl) ?_
  refine lv_if_eq (tgt := 290) X.1 X.2.1 dX6_look_277 (by decide) (fun hc => ?_) (fun hc => ?_)
  · replace h := Eq.mp (if_pos hc) h
    refine lv_aload_n X.1 X.2.1 dX6_look_290 rfl (lv_at hl 0 rfl) ?_
    refine g_get X hP 0 6 13 (v := .long mo_newGoals) rfl rfl inX6 (by decide) fl_X6_63 rfl dX6_look_291 ?_
    exact s_MO_look_294 X hk31 t1 mo_newGoals mo_newBoxes mo_newPerson mo_newWidth v1 v2 v3 v6 v7 v8 mo_newGoals _ _ _ h hP hD hS (lv_sub hl [0, 1, 2, 3, 5, 6, 7] rfl)
  · replace h := Eq.mp (if_neg hc) h
    refine lv_aload_n X.1 X.2.1 dX6_look_280 rfl (lv_at hl 0 rfl) ?_
    refine g_get X hP 0 6 13 (v := .long mo_newGoals) rfl rfl inX6 (by decide) fl_X6_63 rfl dX6_look_281 ?_
    refine lv_lload X.1 X.2.1 dX6_look_284 (lv_at hl 7 rfl) ?_
    refine lv_lor X.1 X.2.1 dX6_look_286 ?_
    refine lv_goto (tgt := 294) X.1 X.2.1 dX6_look_287 (by decide) ?_
    exact s_MO_look_294 X hk31 t1 mo_newGoals mo_newBoxes mo_newPerson mo_newWidth v1 v2 v3 v6 v7 v8 (mo_newGoals ||| v8) _ _ _ h hP hD hS (lv_sub hl [0, 1, 2, 3, 5, 6, 7] rfl)
set_option maxHeartbeats 4000000 in
set_option maxRecDepth 100000 in
theorem s_MO_look_239 {p : Program} {l : Launch} {e : Env} {s : State} {m : MethodId} {args : Array Value} {below : List Frame} {meth : Method} {c : Code} {G : gEnv} {A : Nat → Prop} {hMO : Nat} {hTM : Nat} {hDO : Nat} {hXB : Nat} {hXC : Nat} {hXF : Nat} {hXY : Nat} {hXS : Nat} {hXP : Nat} {hFA : Nat} {hLE : Nat} {mo_thrown : Int32} {mo_isBoard : Int32} {mo_width : Int32} {mo_height : Int32} {mo_person : Int32} {mo_moves : Int32} {mo_pushes : Int32} {mo_floor : Int64} {mo_goals : Int64} {mo_boxes : Int64} {mo_kept : Int32} {mo_many : Int32} {mo_taken : Int32} {mo_length : Int32} {mo_size : Int32} {aTM : Nat → Int32} {k31 : Int64 → Int64 → Int64 → Int32 → Int32 → Int32 → Int32 → Int32 → Prop} {post : Int32 → Int64 → Int64 → Int64 → Int32 → Int32 → Prop} (X : gX p m meth c cX6_look 10 RX6 (some .int) s args G A) (hk31 : ∀ (mo_newFloor' : Int64) (mo_newGoals' : Int64) (mo_newBoxes' : Int64) (mo_newPerson' : Int32) (mo_newWidth' : Int32) (v1' : Int32) (v2' : Int32) (v3' : Int32) (H : Heap) (locs : List Loc) (ls : Array Slot), k31 mo_newFloor' mo_newGoals' mo_newBoxes' mo_newPerson' mo_newWidth' v1' v2' v3' → va_P G.1 gCl [cMO hMO mo_thrown mo_size hTM mo_isBoard mo_width mo_height mo_person mo_moves mo_pushes mo_floor mo_goals mo_boxes mo_newFloor' mo_newGoals' mo_newBoxes' mo_newPerson' mo_newWidth' mo_kept hDO mo_many mo_taken mo_length hXB hXC hXF hXY hXS hXP hFA hLE, cI G hTM 160 aTM] H → va_D A [cMO hMO mo_thrown mo_size hTM mo_isBoard mo_width mo_height mo_person mo_moves mo_pushes mo_floor mo_goals mo_boxes mo_newFloor' mo_newGoals' mo_newBoxes' mo_newPerson' mo_newWidth' mo_kept hDO mo_many mo_taken mo_length hXB hXC hXF hXY hXS hXP hFA hLE, cI G hTM 160 aTM] → va_S A s.heap H locs → lv_has ls 10 [(0, .ref hMO), (1, .int v1'), (2, .int v2'), (3, .int v3')] → W p l e rm_MO_look s m args below meth c H locs 0 0 (MQ below (gQi G (fun (r : Int32) (u : Int64 × Int64 × Int64 × Int32 × Int32) => post r u.1 u.2.1 u.2.2.1 u.2.2.2.1 u.2.2.2.2) (fun (u : Int64 × Int64 × Int64 × Int32 × Int32) => [cMO hMO mo_thrown mo_size hTM mo_isBoard mo_width mo_height mo_person mo_moves mo_pushes mo_floor mo_goals mo_boxes u.1 u.2.1 u.2.2.1 u.2.2.2.1 u.2.2.2.2 mo_kept hDO mo_many mo_taken mo_length hXB hXC hXF hXY hXS hXP hFA hLE, cI G hTM 160 aTM]) A) args s 0 0 A) (F0 m 31 ls [])) : ∀ (mo_newFloor : Int64) (mo_newGoals : Int64) (mo_newBoxes : Int64) (mo_newPerson : Int32) (mo_newWidth : Int32) (v1 : Int32) (v2 : Int32) (v3 : Int32) (v4 : Int32) (v5 : Int32) (v6 : Int32) (v7 : Int32) (H : Heap) (locs : List Loc) (ls : Array Slot), MO_look_239 mo_size aTM k31 post mo_newFloor mo_newGoals mo_newBoxes mo_newPerson mo_newWidth v1 v2 v3 v4 v5 v6 v7 → va_P G.1 gCl [cMO hMO mo_thrown mo_size hTM mo_isBoard mo_width mo_height mo_person mo_moves mo_pushes mo_floor mo_goals mo_boxes mo_newFloor mo_newGoals mo_newBoxes mo_newPerson mo_newWidth mo_kept hDO mo_many mo_taken mo_length hXB hXC hXF hXY hXS hXP hFA hLE, cI G hTM 160 aTM] H → va_D A [cMO hMO mo_thrown mo_size hTM mo_isBoard mo_width mo_height mo_person mo_moves mo_pushes mo_floor mo_goals mo_boxes mo_newFloor mo_newGoals mo_newBoxes mo_newPerson mo_newWidth mo_kept hDO mo_many mo_taken mo_length hXB hXC hXF hXY hXS hXP hFA hLE, cI G hTM 160 aTM] → va_S A s.heap H locs → lv_has ls 10 [(0, .ref hMO), (1, .int v1), (2, .int v2), (3, .int v3), (4, .int v4), (5, .int v5), (6, .int v6), (7, .int v7)] → W p l e rm_MO_look s m args below meth c H locs 0 0 (MQ below (gQi G (fun (r : Int32) (u : Int64 × Int64 × Int64 × Int32 × Int32) => post r u.1 u.2.1 u.2.2.1 u.2.2.2.1 u.2.2.2.2) (fun (u : Int64 × Int64 × Int64 × Int32 × Int32) => [cMO hMO mo_thrown mo_size hTM mo_isBoard mo_width mo_height mo_person mo_moves mo_pushes mo_floor mo_goals mo_boxes u.1 u.2.1 u.2.2.1 u.2.2.2.1 u.2.2.2.2 mo_kept hDO mo_many mo_taken mo_length hXB hXC hXF hXY hXS hXP hFA hLE, cI G hTM 160 aTM]) A) args s 0 0 A) (F0 m 239 ls []) := by
  intro mo_newFloor mo_newGoals mo_newBoxes mo_newPerson mo_newWidth v1 v2 v3 v4 v5 v6 v7 H locs ls h hP hD hS hl
  unfold MO_look_239 at h
  refine lv_lconst (v := (1 : Int64)) X.1 X.2.1 dX6_look_239 (by decide) ?_
  refine lv_bipush (v := (8 : Int32)) X.1 X.2.1 dX6_look_240 (by decide) ?_
  refine lv_iload_n X.1 X.2.1 dX6_look_242 rfl (lv_at hl 2 rfl) ?_
  refine lv_imul X.1 X.2.1 dX6_look_243 ?_
  refine lv_iload_n X.1 X.2.1 dX6_look_244 rfl (lv_at hl 1 rfl) ?_
  refine lv_iadd X.1 X.2.1 dX6_look_245 ?_
  refine lv_lshl X.1 X.2.1 dX6_look_246 rfl ?_
  refine lv_topl (fun v8_1 e_v8_1 => ?_)
  replace h := h v8_1 e_v8_1
  refine lv_lstore (lv' := [(8, .long v8_1), (0, .ref hMO), (1, .int v1), (2, .int v2), (3, .int v3), (4, .int v4), (5, .int v5), (6, .int v6), (7, .int v7)]) X.1 X.2.1 dX6_look_247 hl (by decide) rfl (fun ls hl => ?_)
  refine lv_aload_n X.1 X.2.1 dX6_look_249 rfl (lv_at hl 1 rfl) ?_
  refine lv_iload X.1 X.2.1 dX6_look_250 (lv_at hl 5 rfl) ?_
  refine lv_bipush (v := (35 : Int32)) X.1 X.2.1 dX6_look_252 (by decide) ?_
  refine lv_icmp_ne (tgt := 267) X.1 X.2.1 dX6_look_254 (by decide) (fun hc => ?_) (fun hc => ?_)
  · replace h := Eq.mp (if_neg hc) h
    refine lv_aload_n X.1 X.2.1 dX6_look_267 rfl (lv_at hl 1 rfl) ?_
    refine g_get X hP 0 6 12 (v := .long mo_newFloor) rfl rfl inX6 (by decide) fl_X6_59 rfl dX6_look_268 ?_
    exact s_MO_look_271 X hk31 mo_newFloor mo_newGoals mo_newBoxes mo_newPerson mo_newWidth v1 v2 v3 v5 v6 v7 v8_1 mo_newFloor _ _ _ h hP hD hS (lv_sub hl [1, 2, 3, 4, 6, 7, 8, 0] rfl)
  · replace h := Eq.mp (if_pos hc) h
    refine lv_aload_n X.1 X.2.1 dX6_look_257 rfl (lv_at hl 1 rfl) ?_
    refine g_get X hP 0 6 12 (v := .long mo_newFloor) rfl rfl inX6 (by decide) fl_X6_59 rfl dX6_look_258 ?_
    refine lv_lload X.1 X.2.1 dX6_look_261 (lv_at hl 0 rfl) ?_
    refine lv_lor X.1 X.2.1 dX6_look_263 ?_
    refine lv_goto (tgt := 271) X.1 X.2.1 dX6_look_264 (by decide) ?_
    exact s_MO_look_271 X hk31 mo_newFloor mo_newGoals mo_newBoxes mo_newPerson mo_newWidth v1 v2 v3 v5 v6 v7 v8_1 (mo_newFloor ||| v8_1) _ _ _ h hP hD hS (lv_sub hl [1, 2, 3, 4, 6, 7, 8, 0] rfl)
set_option maxHeartbeats 4000000 in
set_option maxRecDepth 100000 in
theorem s_MO_look_220 {p : Program} {l : Launch} {e : Env} {s : State} {m : MethodId} {args : Array Value} {below : List Frame} {meth : Method} {c : Code} {G : gEnv} {A : Nat → Prop} {hMO : Nat} {hTM : Nat} {hDO : Nat} {hXB : Nat} {hXC : Nat} {hXF : Nat} {hXY : Nat} {hXS : Nat} {hXP : Nat} {hFA : Nat} {hLE : Nat} {mo_thrown : Int32} {mo_isBoard : Int32} {mo_width : Int32} {mo_height : Int32} {mo_person : Int32} {mo_moves : Int32} {mo_pushes : Int32} {mo_floor : Int64} {mo_goals : Int64} {mo_boxes : Int64} {mo_kept : Int32} {mo_many : Int32} {mo_taken : Int32} {mo_length : Int32} {mo_size : Int32} {aTM : Nat → Int32} {k31 : Int64 → Int64 → Int64 → Int32 → Int32 → Int32 → Int32 → Int32 → Prop} {post : Int32 → Int64 → Int64 → Int64 → Int32 → Int32 → Prop} (X : gX p m meth c cX6_look 10 RX6 (some .int) s args G A) (hk31 : ∀ (mo_newFloor' : Int64) (mo_newGoals' : Int64) (mo_newBoxes' : Int64) (mo_newPerson' : Int32) (mo_newWidth' : Int32) (v1' : Int32) (v2' : Int32) (v3' : Int32) (H : Heap) (locs : List Loc) (ls : Array Slot), k31 mo_newFloor' mo_newGoals' mo_newBoxes' mo_newPerson' mo_newWidth' v1' v2' v3' → va_P G.1 gCl [cMO hMO mo_thrown mo_size hTM mo_isBoard mo_width mo_height mo_person mo_moves mo_pushes mo_floor mo_goals mo_boxes mo_newFloor' mo_newGoals' mo_newBoxes' mo_newPerson' mo_newWidth' mo_kept hDO mo_many mo_taken mo_length hXB hXC hXF hXY hXS hXP hFA hLE, cI G hTM 160 aTM] H → va_D A [cMO hMO mo_thrown mo_size hTM mo_isBoard mo_width mo_height mo_person mo_moves mo_pushes mo_floor mo_goals mo_boxes mo_newFloor' mo_newGoals' mo_newBoxes' mo_newPerson' mo_newWidth' mo_kept hDO mo_many mo_taken mo_length hXB hXC hXF hXY hXS hXP hFA hLE, cI G hTM 160 aTM] → va_S A s.heap H locs → lv_has ls 10 [(0, .ref hMO), (1, .int v1'), (2, .int v2'), (3, .int v3')] → W p l e rm_MO_look s m args below meth c H locs 0 0 (MQ below (gQi G (fun (r : Int32) (u : Int64 × Int64 × Int64 × Int32 × Int32) => post r u.1 u.2.1 u.2.2.1 u.2.2.2.1 u.2.2.2.2) (fun (u : Int64 × Int64 × Int64 × Int32 × Int32) => [cMO hMO mo_thrown mo_size hTM mo_isBoard mo_width mo_height mo_person mo_moves mo_pushes mo_floor mo_goals mo_boxes u.1 u.2.1 u.2.2.1 u.2.2.2.1 u.2.2.2.2 mo_kept hDO mo_many mo_taken mo_length hXB hXC hXF hXY hXS hXP hFA hLE, cI G hTM 160 aTM]) A) args s 0 0 A) (F0 m 31 ls [])) : ∀ (mo_newFloor : Int64) (mo_newGoals : Int64) (mo_newBoxes : Int64) (mo_newPerson : Int32) (mo_newWidth : Int32) (v1 : Int32) (v2 : Int32) (v3 : Int32) (v4 : Int32) (v5 : Int32) (v6 : Int32) (v7 : Int32) (H : Heap) (locs : List Loc) (ls : Array Slot), MO_look_220 mo_size aTM k31 post mo_newFloor mo_newGoals mo_newBoxes mo_newPerson mo_newWidth v1 v2 v3 v4 v5 v6 v7 → va_P G.1 gCl [cMO hMO mo_thrown mo_size hTM mo_isBoard mo_width mo_height mo_person mo_moves mo_pushes mo_floor mo_goals mo_boxes mo_newFloor mo_newGoals mo_newBoxes mo_newPerson mo_newWidth mo_kept hDO mo_many mo_taken mo_length hXB hXC hXF hXY hXS hXP hFA hLE, cI G hTM 160 aTM] H → va_D A [cMO hMO mo_thrown mo_size hTM mo_isBoard mo_width mo_height mo_person mo_moves mo_pushes mo_floor mo_goals mo_boxes mo_newFloor mo_newGoals mo_newBoxes mo_newPerson mo_newWidth mo_kept hDO mo_many mo_taken mo_length hXB hXC hXF hXY hXS hXP hFA hLE, cI G hTM 160 aTM] → va_S A s.heap H locs → lv_has ls 10 [(0, .ref hMO), (1, .int v1), (2, .int v2), (3, .int v3), (4, .int v4), (5, .int v5), (6, .int v6), (7, .int v7)] → W p l e rm_MO_look s m args below meth c H locs 0 0 (MQ below (gQi G (fun (r : Int32) (u : Int64 × Int64 × Int64 × Int32 × Int32) => post r u.1 u.2.1 u.2.2.1 u.2.2.2.1 u.2.2.2.2) (fun (u : Int64 × Int64 × Int64 × Int32 × Int32) => [cMO hMO mo_thrown mo_size hTM mo_isBoard mo_width mo_height mo_person mo_moves mo_pushes mo_floor mo_goals mo_boxes u.1 u.2.1 u.2.2.1 u.2.2.2.1 u.2.2.2.2 mo_kept hDO mo_many mo_taken mo_length hXB hXC hXF hXY hXS hXP hFA hLE, cI G hTM 160 aTM]) A) args s 0 0 A) (F0 m 220 ls []) := by
  intro mo_newFloor mo_newGoals mo_newBoxes mo_newPerson mo_newWidth v1 v2 v3 v4 v5 v6 v7 H locs ls h hP hD hS hl
  unfold MO_look_220 at h
  refine lv_iload X.1 X.2.1 dX6_look_220 (lv_at hl 6 rfl) ?_
  refine lv_if_eq (tgt := 239) X.1 X.2.1 dX6_look_222 (by decide) (fun hc => ?_) (fun hc => ?_)
  · replace h := Eq.mp (if_pos hc) h
    exact s_MO_look_239 X hk31 mo_newFloor mo_newGoals mo_newBoxes mo_newPerson mo_newWidth v1 v2 v3 v4 v5 v6 v7 _ _ _ h hP hD hS (lv_sub hl [0, 1, 2, 3, 4, 5, 6, 7] rfl)
  · replace h := Eq.mp (if_neg hc) h
    refine lv_aload_n X.1 X.2.1 dX6_look_225 rfl (lv_at hl 0 rfl) ?_
    refine g_get X hP 0 6 14 (v := .long mo_newBoxes) rfl rfl inX6 (by decide) fl_X6_66 rfl dX6_look_226 ?_
    refine g_ci (wr := [cMO hMO mo_thrown mo_size hTM mo_isBoard mo_width mo_height mo_person mo_moves mo_pushes mo_floor mo_goals mo_boxes mo_newFloor mo_newGoals mo_newBoxes mo_newPerson mo_newWidth mo_kept hDO mo_many mo_taken mo_length hXB hXC hXF hXY hXS hXP hFA hLE, cI G hTM 160 aTM]) X [] [0, 1] (g_rS (As := [.long mo_newBoxes]) (rest := []) X (c_MO_countOf l G mo_newBoxes _ h _) lk_X6_75 rfl rfl ⟨Nat.le_of_ble_eq_true rfl, Nat.le_of_ble_eq_true rfl⟩ hP hD hS [] rfl rfl rfl hl.1 rfl (Nat.le_of_ble_eq_true rfl) dX6_look_229 ⟨Nat.le_of_ble_eq_true rfl, Nat.le_of_ble_eq_true rfl⟩) hP hD hS rfl rfl rfl (by decide) (fun r_1 u H locs h hP hD hS => ?_)
    try dsimp only at h
    replace hP := hP.sub (ws' := [cMO hMO mo_thrown mo_size hTM mo_isBoard mo_width mo_height mo_person mo_moves mo_pushes mo_floor mo_goals mo_boxes mo_newFloor mo_newGoals mo_newBoxes mo_newPerson mo_newWidth mo_kept hDO mo_many mo_taken mo_length hXB hXC hXF hXY hXS hXP hFA hLE, cI G hTM 160 aTM]) [0, 1] rfl
    replace hD := hD.sub (ws' := [cMO hMO mo_thrown mo_size hTM mo_isBoard mo_width mo_height mo_person mo_moves mo_pushes mo_floor mo_goals mo_boxes mo_newFloor mo_newGoals mo_newBoxes mo_newPerson mo_newWidth mo_kept hDO mo_many mo_taken mo_length hXB hXC hXF hXY hXS hXP hFA hLE, cI G hTM 160 aTM]) [0, 1] rfl rfl
    refine lv_bipush (v := (12 : Int32)) X.1 X.2.1 dX6_look_232 (by decide) ?_
    refine lv_icmp_ne (tgt := 239) X.1 X.2.1 dX6_look_234 (by decide) (fun hc => ?_) (fun hc => ?_)
    · replace h := Eq.mp (if_neg hc) h
      exact s_MO_look_239 X hk31 mo_newFloor mo_newGoals mo_newBoxes mo_newPerson mo_newWidth v1 v2 v3 v4 v5 v6 v7 _ _ _ h hP hD hS (lv_sub hl [0, 1, 2, 3, 4, 5, 6, 7] rfl)
    · replace h := Eq.mp (if_pos hc) h
      refine lv_iload_n X.1 X.2.1 dX6_look_237 rfl (lv_at hl 3 rfl) ?_
      exact g_iret X (mo_newFloor, mo_newGoals, mo_newBoxes, mo_newPerson, mo_newWidth) h hP hD hS dX6_look_238
set_option maxHeartbeats 4000000 in
set_option maxRecDepth 100000 in
theorem s_MO_look_203 {p : Program} {l : Launch} {e : Env} {s : State} {m : MethodId} {args : Array Value} {below : List Frame} {meth : Method} {c : Code} {G : gEnv} {A : Nat → Prop} {hMO : Nat} {hTM : Nat} {hDO : Nat} {hXB : Nat} {hXC : Nat} {hXF : Nat} {hXY : Nat} {hXS : Nat} {hXP : Nat} {hFA : Nat} {hLE : Nat} {mo_thrown : Int32} {mo_isBoard : Int32} {mo_width : Int32} {mo_height : Int32} {mo_person : Int32} {mo_moves : Int32} {mo_pushes : Int32} {mo_floor : Int64} {mo_goals : Int64} {mo_boxes : Int64} {mo_kept : Int32} {mo_many : Int32} {mo_taken : Int32} {mo_length : Int32} {mo_size : Int32} {aTM : Nat → Int32} {k31 : Int64 → Int64 → Int64 → Int32 → Int32 → Int32 → Int32 → Int32 → Prop} {post : Int32 → Int64 → Int64 → Int64 → Int32 → Int32 → Prop} (X : gX p m meth c cX6_look 10 RX6 (some .int) s args G A) (hk31 : ∀ (mo_newFloor' : Int64) (mo_newGoals' : Int64) (mo_newBoxes' : Int64) (mo_newPerson' : Int32) (mo_newWidth' : Int32) (v1' : Int32) (v2' : Int32) (v3' : Int32) (H : Heap) (locs : List Loc) (ls : Array Slot), k31 mo_newFloor' mo_newGoals' mo_newBoxes' mo_newPerson' mo_newWidth' v1' v2' v3' → va_P G.1 gCl [cMO hMO mo_thrown mo_size hTM mo_isBoard mo_width mo_height mo_person mo_moves mo_pushes mo_floor mo_goals mo_boxes mo_newFloor' mo_newGoals' mo_newBoxes' mo_newPerson' mo_newWidth' mo_kept hDO mo_many mo_taken mo_length hXB hXC hXF hXY hXS hXP hFA hLE, cI G hTM 160 aTM] H → va_D A [cMO hMO mo_thrown mo_size hTM mo_isBoard mo_width mo_height mo_person mo_moves mo_pushes mo_floor mo_goals mo_boxes mo_newFloor' mo_newGoals' mo_newBoxes' mo_newPerson' mo_newWidth' mo_kept hDO mo_many mo_taken mo_length hXB hXC hXF hXY hXS hXP hFA hLE, cI G hTM 160 aTM] → va_S A s.heap H locs → lv_has ls 10 [(0, .ref hMO), (1, .int v1'), (2, .int v2'), (3, .int v3')] → W p l e rm_MO_look s m args below meth c H locs 0 0 (MQ below (gQi G (fun (r : Int32) (u : Int64 × Int64 × Int64 × Int32 × Int32) => post r u.1 u.2.1 u.2.2.1 u.2.2.2.1 u.2.2.2.2) (fun (u : Int64 × Int64 × Int64 × Int32 × Int32) => [cMO hMO mo_thrown mo_size hTM mo_isBoard mo_width mo_height mo_person mo_moves mo_pushes mo_floor mo_goals mo_boxes u.1 u.2.1 u.2.2.1 u.2.2.2.1 u.2.2.2.2 mo_kept hDO mo_many mo_taken mo_length hXB hXC hXF hXY hXS hXP hFA hLE, cI G hTM 160 aTM]) A) args s 0 0 A) (F0 m 31 ls [])) : ∀ (mo_newFloor : Int64) (mo_newGoals : Int64) (mo_newBoxes : Int64) (mo_newPerson : Int32) (mo_newWidth : Int32) (v1 : Int32) (v2 : Int32) (v3 : Int32) (v4 : Int32) (v5 : Int32) (v6 : Int32) (v7 : Int32) (H : Heap) (locs : List Loc) (ls : Array Slot), MO_look_203 mo_size aTM k31 post mo_newFloor mo_newGoals mo_newBoxes mo_newPerson mo_newWidth v1 v2 v3 v4 v5 v6 v7 → va_P G.1 gCl [cMO hMO mo_thrown mo_size hTM mo_isBoard mo_width mo_height mo_person mo_moves mo_pushes mo_floor mo_goals mo_boxes mo_newFloor mo_newGoals mo_newBoxes mo_newPerson mo_newWidth mo_kept hDO mo_many mo_taken mo_length hXB hXC hXF hXY hXS hXP hFA hLE, cI G hTM 160 aTM] H → va_D A [cMO hMO mo_thrown mo_size hTM mo_isBoard mo_width mo_height mo_person mo_moves mo_pushes mo_floor mo_goals mo_boxes mo_newFloor mo_newGoals mo_newBoxes mo_newPerson mo_newWidth mo_kept hDO mo_many mo_taken mo_length hXB hXC hXF hXY hXS hXP hFA hLE, cI G hTM 160 aTM] → va_S A s.heap H locs → lv_has ls 10 [(0, .ref hMO), (1, .int v1), (2, .int v2), (3, .int v3), (4, .int v4), (5, .int v5), (6, .int v6), (7, .int v7)] → W p l e rm_MO_look s m args below meth c H locs 0 0 (MQ below (gQi G (fun (r : Int32) (u : Int64 × Int64 × Int64 × Int32 × Int32) => post r u.1 u.2.1 u.2.2.1 u.2.2.2.1 u.2.2.2.2) (fun (u : Int64 × Int64 × Int64 × Int32 × Int32) => [cMO hMO mo_thrown mo_size hTM mo_isBoard mo_width mo_height mo_person mo_moves mo_pushes mo_floor mo_goals mo_boxes u.1 u.2.1 u.2.2.1 u.2.2.2.1 u.2.2.2.2 mo_kept hDO mo_many mo_taken mo_length hXB hXC hXF hXY hXS hXP hFA hLE, cI G hTM 160 aTM]) A) args s 0 0 A) (F0 m 203 ls []) := by
  intro mo_newFloor mo_newGoals mo_newBoxes mo_newPerson mo_newWidth v1 v2 v3 v4 v5 v6 v7 H locs ls h hP hD hS hl
  unfold MO_look_203 at h
  refine lv_iload X.1 X.2.1 dX6_look_203 (lv_at hl 5 rfl) ?_
  refine lv_if_eq (tgt := 220) X.1 X.2.1 dX6_look_205 (by decide) (fun hc => ?_) (fun hc => ?_)
  · replace h := Eq.mp (if_pos hc) h
    exact s_MO_look_220 X hk31 mo_newFloor mo_newGoals mo_newBoxes mo_newPerson mo_newWidth v1 v2 v3 v4 v5 v6 v7 _ _ _ h hP hD hS (lv_sub hl [0, 1, 2, 3, 4, 5, 6, 7] rfl)
  · replace h := Eq.mp (if_neg hc) h
    refine lv_aload_n X.1 X.2.1 dX6_look_208 rfl (lv_at hl 0 rfl) ?_
    refine g_get X hP 0 6 13 (v := .long mo_newGoals) rfl rfl inX6 (by decide) fl_X6_63 rfl dX6_look_209 ?_
    refine g_ci (wr := [cMO hMO mo_thrown mo_size hTM mo_isBoard mo_width mo_height mo_person mo_moves mo_pushes mo_floor mo_goals mo_boxes mo_newFloor mo_newGoals mo_newBoxes mo_newPerson mo_newWidth mo_kept hDO mo_many mo_taken mo_length hXB hXC hXF hXY hXS hXP hFA hLE, cI G hTM 160 aTM]) X [] [0, 1] (g_rS (As := [.long mo_newGoals]) (rest := []) X (c_MO_countOf l G mo_newGoals _ h _) lk_X6_75 rfl rfl ⟨Nat.le_of_ble_eq_true rfl, Nat.le_of_ble_eq_true rfl⟩ hP hD hS [] rfl rfl rfl hl.1 rfl (Nat.le_of_ble_eq_true rfl) dX6_look_212 ⟨Nat.le_of_ble_eq_true rfl, Nat.le_of_ble_eq_true rfl⟩) hP hD hS rfl rfl rfl (by decide) (fun r_1 u H locs h hP hD hS => ?_)
    try dsimp only at h
    replace hP := hP.sub (ws' := [cMO hMO mo_thrown mo_size hTM mo_isBoard mo_width mo_height mo_person mo_moves mo_pushes mo_floor mo_goals mo_boxes mo_newFloor mo_newGoals mo_newBoxes mo_newPerson mo_newWidth mo_kept hDO mo_many mo_taken mo_length hXB hXC hXF hXY hXS hXP hFA hLE, cI G hTM 160 aTM]) [0, 1] rfl
    replace hD := hD.sub (ws' := [cMO hMO mo_thrown mo_size hTM mo_isBoard mo_width mo_height mo_person mo_moves mo_pushes mo_floor mo_goals mo_boxes mo_newFloor mo_newGoals mo_newBoxes mo_newPerson mo_newWidth mo_kept hDO mo_many mo_taken mo_length hXB hXC hXF hXY hXS hXP hFA hLE, cI G hTM 160 aTM]) [0, 1] rfl rfl
    refine lv_bipush (v := (12 : Int32)) X.1 X.2.1 dX6_look_215 (by decide) ?_
    refine lv_icmp_eq (tgt := 237) X.1 X.2.1 dX6_look_217 (by decide) (fun hc => ?_) (fun hc => ?_)
    · replace h := Eq.mp (if_pos hc) h
      refine lv_iload_n X.1 X.2.1 dX6_look_237 rfl (lv_at hl 3 rfl) ?_
      exact g_iret X (mo_newFloor, mo_newGoals, mo_newBoxes, mo_newPerson, mo_newWidth) h hP hD hS dX6_look_238
    · replace h := Eq.mp (if_neg hc) h
      exact s_MO_look_220 X hk31 mo_newFloor mo_newGoals mo_newBoxes mo_newPerson mo_newWidth v1 v2 v3 v4 v5 v6 v7 _ _ _ h hP hD hS (lv_sub hl [0, 1, 2, 3, 4, 5, 6, 7] rfl)
set_option maxHeartbeats 4000000 in
set_option maxRecDepth 100000 in
theorem s_MO_look_185 {p : Program} {l : Launch} {e : Env} {s : State} {m : MethodId} {args : Array Value} {below : List Frame} {meth : Method} {c : Code} {G : gEnv} {A : Nat → Prop} {hMO : Nat} {hTM : Nat} {hDO : Nat} {hXB : Nat} {hXC : Nat} {hXF : Nat} {hXY : Nat} {hXS : Nat} {hXP : Nat} {hFA : Nat} {hLE : Nat} {mo_thrown : Int32} {mo_isBoard : Int32} {mo_width : Int32} {mo_height : Int32} {mo_person : Int32} {mo_moves : Int32} {mo_pushes : Int32} {mo_floor : Int64} {mo_goals : Int64} {mo_boxes : Int64} {mo_kept : Int32} {mo_many : Int32} {mo_taken : Int32} {mo_length : Int32} {mo_size : Int32} {aTM : Nat → Int32} {k31 : Int64 → Int64 → Int64 → Int32 → Int32 → Int32 → Int32 → Int32 → Prop} {post : Int32 → Int64 → Int64 → Int64 → Int32 → Int32 → Prop} (X : gX p m meth c cX6_look 10 RX6 (some .int) s args G A) (hk31 : ∀ (mo_newFloor' : Int64) (mo_newGoals' : Int64) (mo_newBoxes' : Int64) (mo_newPerson' : Int32) (mo_newWidth' : Int32) (v1' : Int32) (v2' : Int32) (v3' : Int32) (H : Heap) (locs : List Loc) (ls : Array Slot), k31 mo_newFloor' mo_newGoals' mo_newBoxes' mo_newPerson' mo_newWidth' v1' v2' v3' → va_P G.1 gCl [cMO hMO mo_thrown mo_size hTM mo_isBoard mo_width mo_height mo_person mo_moves mo_pushes mo_floor mo_goals mo_boxes mo_newFloor' mo_newGoals' mo_newBoxes' mo_newPerson' mo_newWidth' mo_kept hDO mo_many mo_taken mo_length hXB hXC hXF hXY hXS hXP hFA hLE, cI G hTM 160 aTM] H → va_D A [cMO hMO mo_thrown mo_size hTM mo_isBoard mo_width mo_height mo_person mo_moves mo_pushes mo_floor mo_goals mo_boxes mo_newFloor' mo_newGoals' mo_newBoxes' mo_newPerson' mo_newWidth' mo_kept hDO mo_many mo_taken mo_length hXB hXC hXF hXY hXS hXP hFA hLE, cI G hTM 160 aTM] → va_S A s.heap H locs → lv_has ls 10 [(0, .ref hMO), (1, .int v1'), (2, .int v2'), (3, .int v3')] → W p l e rm_MO_look s m args below meth c H locs 0 0 (MQ below (gQi G (fun (r : Int32) (u : Int64 × Int64 × Int64 × Int32 × Int32) => post r u.1 u.2.1 u.2.2.1 u.2.2.2.1 u.2.2.2.2) (fun (u : Int64 × Int64 × Int64 × Int32 × Int32) => [cMO hMO mo_thrown mo_size hTM mo_isBoard mo_width mo_height mo_person mo_moves mo_pushes mo_floor mo_goals mo_boxes u.1 u.2.1 u.2.2.1 u.2.2.2.1 u.2.2.2.2 mo_kept hDO mo_many mo_taken mo_length hXB hXC hXF hXY hXS hXP hFA hLE, cI G hTM 160 aTM]) A) args s 0 0 A) (F0 m 31 ls [])) : ∀ (mo_newFloor : Int64) (mo_newGoals : Int64) (mo_newBoxes : Int64) (mo_newPerson : Int32) (mo_newWidth : Int32) (v1 : Int32) (v2 : Int32) (v3 : Int32) (v4 : Int32) (v5 : Int32) (v6 : Int32) (v7 : Int32) (H : Heap) (locs : List Loc) (ls : Array Slot), MO_look_185 mo_size aTM k31 post mo_newFloor mo_newGoals mo_newBoxes mo_newPerson mo_newWidth v1 v2 v3 v4 v5 v6 v7 → va_P G.1 gCl [cMO hMO mo_thrown mo_size hTM mo_isBoard mo_width mo_height mo_person mo_moves mo_pushes mo_floor mo_goals mo_boxes mo_newFloor mo_newGoals mo_newBoxes mo_newPerson mo_newWidth mo_kept hDO mo_many mo_taken mo_length hXB hXC hXF hXY hXS hXP hFA hLE, cI G hTM 160 aTM] H → va_D A [cMO hMO mo_thrown mo_size hTM mo_isBoard mo_width mo_height mo_person mo_moves mo_pushes mo_floor mo_goals mo_boxes mo_newFloor mo_newGoals mo_newBoxes mo_newPerson mo_newWidth mo_kept hDO mo_many mo_taken mo_length hXB hXC hXF hXY hXS hXP hFA hLE, cI G hTM 160 aTM] → va_S A s.heap H locs → lv_has ls 10 [(0, .ref hMO), (1, .int v1), (2, .int v2), (3, .int v3), (4, .int v4), (5, .int v5), (6, .int v6), (7, .int v7)] → W p l e rm_MO_look s m args below meth c H locs 0 0 (MQ below (gQi G (fun (r : Int32) (u : Int64 × Int64 × Int64 × Int32 × Int32) => post r u.1 u.2.1 u.2.2.1 u.2.2.2.1 u.2.2.2.2) (fun (u : Int64 × Int64 × Int64 × Int32 × Int32) => [cMO hMO mo_thrown mo_size hTM mo_isBoard mo_width mo_height mo_person mo_moves mo_pushes mo_floor mo_goals mo_boxes u.1 u.2.1 u.2.2.1 u.2.2.2.1 u.2.2.2.2 mo_kept hDO mo_many mo_taken mo_length hXB hXC hXF hXY hXS hXP hFA hLE, cI G hTM 160 aTM]) A) args s 0 0 A) (F0 m 185 ls []) := by
  intro mo_newFloor mo_newGoals mo_newBoxes mo_newPerson mo_newWidth v1 v2 v3 v4 v5 v6 v7 H locs ls h hP hD hS hl
  unfold MO_look_185 at h
  refine lv_iload_n X.1 X.2.1 dX6_look_185 rfl (lv_at hl 1 rfl) ?_
  refine lv_bipush (v := (8 : Int32)) X.1 X.2.1 dX6_look_186 (by decide) ?_
  refine lv_icmp_eq (tgt := 237) X.1 X.2.1 dX6_look_188 (by decide) (fun hc => ?_) (fun hc => ?_)
  · replace h := Eq.mp (if_pos hc) h
    refine lv_iload_n X.1 X.2.1 dX6_look_237 rfl (lv_at hl 3 rfl) ?_
    exact g_iret X (mo_newFloor, mo_newGoals, mo_newBoxes, mo_newPerson, mo_newWidth) h hP hD hS dX6_look_238
  · replace h := Eq.mp (if_neg hc) h
    refine lv_iload X.1 X.2.1 dX6_look_191 (lv_at hl 7 rfl) ?_
    refine lv_if_eq (tgt := 203) X.1 X.2.1 dX6_look_193 (by decide) (fun hc => ?_) (fun hc => ?_)
    · replace h := Eq.mp (if_pos hc) h
      exact s_MO_look_203 X hk31 mo_newFloor mo_newGoals mo_newBoxes mo_newPerson mo_newWidth v1 v2 v3 v4 v5 v6 v7 _ _ _ h hP hD hS (lv_sub hl [0, 1, 2, 3, 4, 5, 6, 7] rfl)
    · replace h := Eq.mp (if_neg hc) h
      refine lv_aload_n X.1 X.2.1 dX6_look_196 rfl (lv_at hl 0 rfl) ?_
      refine g_get X hP 0 6 15 (v := .int mo_newPerson) rfl rfl inX6 (by decide) fl_X6_69 rfl dX6_look_197 ?_
      refine lv_if_ge (tgt := 237) X.1 X.2.1 dX6_look_200 (by decide) (fun hc => ?_) (fun hc => ?_)
      · replace h := Eq.mp (if_pos hc) h
        refine lv_iload_n X.1 X.2.1 dX6_look_237 rfl (lv_at hl 3 rfl) ?_
        exact g_iret X (mo_newFloor, mo_newGoals, mo_newBoxes, mo_newPerson, mo_newWidth) h hP hD hS dX6_look_238
      · replace h := Eq.mp (if_neg hc) h
        exact s_MO_look_203 X hk31 mo_newFloor mo_newGoals mo_newBoxes mo_newPerson mo_newWidth v1 v2 v3 v4 v5 v6 v7 _ _ _ h hP hD hS (lv_sub hl [0, 1, 2, 3, 4, 5, 6, 7] rfl)
set_option maxHeartbeats 4000000 in
set_option maxRecDepth 100000 in
theorem s_MO_look_145 {p : Program} {l : Launch} {e : Env} {s : State} {m : MethodId} {args : Array Value} {below : List Frame} {meth : Method} {c : Code} {G : gEnv} {A : Nat → Prop} {hMO : Nat} {hTM : Nat} {hDO : Nat} {hXB : Nat} {hXC : Nat} {hXF : Nat} {hXY : Nat} {hXS : Nat} {hXP : Nat} {hFA : Nat} {hLE : Nat} {mo_thrown : Int32} {mo_isBoard : Int32} {mo_width : Int32} {mo_height : Int32} {mo_person : Int32} {mo_moves : Int32} {mo_pushes : Int32} {mo_floor : Int64} {mo_goals : Int64} {mo_boxes : Int64} {mo_kept : Int32} {mo_many : Int32} {mo_taken : Int32} {mo_length : Int32} {mo_size : Int32} {aTM : Nat → Int32} {k31 : Int64 → Int64 → Int64 → Int32 → Int32 → Int32 → Int32 → Int32 → Prop} {post : Int32 → Int64 → Int64 → Int64 → Int32 → Int32 → Prop} (X : gX p m meth c cX6_look 10 RX6 (some .int) s args G A) (hk31 : ∀ (mo_newFloor' : Int64) (mo_newGoals' : Int64) (mo_newBoxes' : Int64) (mo_newPerson' : Int32) (mo_newWidth' : Int32) (v1' : Int32) (v2' : Int32) (v3' : Int32) (H : Heap) (locs : List Loc) (ls : Array Slot), k31 mo_newFloor' mo_newGoals' mo_newBoxes' mo_newPerson' mo_newWidth' v1' v2' v3' → va_P G.1 gCl [cMO hMO mo_thrown mo_size hTM mo_isBoard mo_width mo_height mo_person mo_moves mo_pushes mo_floor mo_goals mo_boxes mo_newFloor' mo_newGoals' mo_newBoxes' mo_newPerson' mo_newWidth' mo_kept hDO mo_many mo_taken mo_length hXB hXC hXF hXY hXS hXP hFA hLE, cI G hTM 160 aTM] H → va_D A [cMO hMO mo_thrown mo_size hTM mo_isBoard mo_width mo_height mo_person mo_moves mo_pushes mo_floor mo_goals mo_boxes mo_newFloor' mo_newGoals' mo_newBoxes' mo_newPerson' mo_newWidth' mo_kept hDO mo_many mo_taken mo_length hXB hXC hXF hXY hXS hXP hFA hLE, cI G hTM 160 aTM] → va_S A s.heap H locs → lv_has ls 10 [(0, .ref hMO), (1, .int v1'), (2, .int v2'), (3, .int v3')] → W p l e rm_MO_look s m args below meth c H locs 0 0 (MQ below (gQi G (fun (r : Int32) (u : Int64 × Int64 × Int64 × Int32 × Int32) => post r u.1 u.2.1 u.2.2.1 u.2.2.2.1 u.2.2.2.2) (fun (u : Int64 × Int64 × Int64 × Int32 × Int32) => [cMO hMO mo_thrown mo_size hTM mo_isBoard mo_width mo_height mo_person mo_moves mo_pushes mo_floor mo_goals mo_boxes u.1 u.2.1 u.2.2.1 u.2.2.2.1 u.2.2.2.2 mo_kept hDO mo_many mo_taken mo_length hXB hXC hXF hXY hXS hXP hFA hLE, cI G hTM 160 aTM]) A) args s 0 0 A) (F0 m 31 ls [])) : ∀ (mo_newFloor : Int64) (mo_newGoals : Int64) (mo_newBoxes : Int64) (mo_newPerson : Int32) (mo_newWidth : Int32) (v1 : Int32) (v2 : Int32) (v3 : Int32) (v4 : Int32) (v5 : Int32) (v6 : Int32) (t0 : Int32) (H : Heap) (locs : List Loc) (ls : Array Slot), MO_look_145 mo_size aTM k31 post mo_newFloor mo_newGoals mo_newBoxes mo_newPerson mo_newWidth v1 v2 v3 v4 v5 v6 t0 → va_P G.1 gCl [cMO hMO mo_thrown mo_size hTM mo_isBoard mo_width mo_height mo_person mo_moves mo_pushes mo_floor mo_goals mo_boxes mo_newFloor mo_newGoals mo_newBoxes mo_newPerson mo_newWidth mo_kept hDO mo_many mo_taken mo_length hXB hXC hXF hXY hXS hXP hFA hLE, cI G hTM 160 aTM] H → va_D A [cMO hMO mo_thrown mo_size hTM mo_isBoard mo_width mo_height mo_person mo_moves mo_pushes mo_floor mo_goals mo_boxes mo_newFloor mo_newGoals mo_newBoxes mo_newPerson mo_newWidth mo_kept hDO mo_many mo_taken mo_length hXB hXC hXF hXY hXS hXP hFA hLE, cI G hTM 160 aTM] → va_S A s.heap H locs → lv_has ls 10 [(0, .ref hMO), (1, .int v1), (2, .int v2), (3, .int v3), (4, .int v4), (5, .int v5), (6, .int v6)] → W p l e rm_MO_look s m args below meth c H locs 0 0 (MQ below (gQi G (fun (r : Int32) (u : Int64 × Int64 × Int64 × Int32 × Int32) => post r u.1 u.2.1 u.2.2.1 u.2.2.2.1 u.2.2.2.2) (fun (u : Int64 × Int64 × Int64 × Int32 × Int32) => [cMO hMO mo_thrown mo_size hTM mo_isBoard mo_width mo_height mo_person mo_moves mo_pushes mo_floor mo_goals mo_boxes u.1 u.2.1 u.2.2.1 u.2.2.2.1 u.2.2.2.2 mo_kept hDO mo_many mo_taken mo_length hXB hXC hXF hXY hXS hXP hFA hLE, cI G hTM 160 aTM]) A) args s 0 0 A) (F0 m 145 ls [.int t0]) := by
  intro mo_newFloor mo_newGoals mo_newBoxes mo_newPerson mo_newWidth v1 v2 v3 v4 v5 v6 t0 H locs ls h hP hD hS hl
  unfold MO_look_145 at h
  refine lv_istore (lv' := [(7, .int t0), (0, .ref hMO), (1, .int v1), (2, .int v2), (3, .int v3), (4, .int v4), (5, .int v5), (6, .int v6)]) X.1 X.2.1 dX6_look_145 hl (by decide) rfl (fun ls hl => ?_)
  refine lv_iload X.1 X.2.1 dX6_look_147 (lv_at hl 6 rfl) ?_
  refine lv_if_ne (tgt := 185) X.1 X.2.1 dX6_look_149 (by decide) (fun hc => ?_) (fun hc => ?_)
  · replace h := Eq.mp (if_neg hc) h
    exact s_MO_look_185 X hk31 mo_newFloor mo_newGoals mo_newBoxes mo_newPerson mo_newWidth v1 v2 v3 v4 v5 v6 t0 _ _ _ h hP hD hS (lv_sub hl [1, 2, 3, 4, 5, 6, 7, 0] rfl)
  · replace h := Eq.mp (if_pos hc) h
    refine lv_iload X.1 X.2.1 dX6_look_152 (lv_at hl 7 rfl) ?_
    refine lv_if_ne (tgt := 185) X.1 X.2.1 dX6_look_154 (by decide) (fun hc => ?_) (fun hc => ?_)
    · replace h := Eq.mp (if_neg hc) h
      exact s_MO_look_185 X hk31 mo_newFloor mo_newGoals mo_newBoxes mo_newPerson mo_newWidth v1 v2 v3 v4 v5 v6 t0 _ _ _ h hP hD hS (lv_sub hl [1, 2, 3, 4, 5, 6, 7, 0] rfl)
    · replace h := Eq.mp (if_pos hc) h
      refine lv_iload X.1 X.2.1 dX6_look_157 (lv_at hl 0 rfl) ?_
      refine lv_if_ne (tgt := 185) X.1 X.2.1 dX6_look_159 (by decide) (fun hc => ?_) (fun hc => ?_)
      · replace h := Eq.mp (if_neg hc) h
        exact s_MO_look_185 X hk31 mo_newFloor mo_newGoals mo_newBoxes mo_newPerson mo_newWidth v1 v2 v3 v4 v5 v6 t0 _ _ _ h hP hD hS (lv_sub hl [1, 2, 3, 4, 5, 6, 7, 0] rfl)
      · replace h := Eq.mp (if_pos hc) h
        refine lv_iload X.1 X.2.1 dX6_look_162 (lv_at hl 5 rfl) ?_
        refine lv_bipush (v := (35 : Int32)) X.1 X.2.1 dX6_look_164 (by decide) ?_
        refine lv_icmp_eq (tgt := 185) X.1 X.2.1 dX6_look_166 (by decide) (fun hc => ?_) (fun hc => ?_)
        · replace h := Eq.mp (if_pos hc) h
          exact s_MO_look_185 X hk31 mo_newFloor mo_newGoals mo_newBoxes mo_newPerson mo_newWidth v1 v2 v3 v4 v5 v6 t0 _ _ _ h hP hD hS (lv_sub hl [1, 2, 3, 4, 5, 6, 7, 0] rfl)
        · replace h := Eq.mp (if_neg hc) h
          refine lv_iload X.1 X.2.1 dX6_look_169 (lv_at hl 5 rfl) ?_
          refine lv_bipush (v := (32 : Int32)) X.1 X.2.1 dX6_look_171 (by decide) ?_
          refine lv_icmp_eq (tgt := 185) X.1 X.2.1 dX6_look_173 (by decide) (fun hc => ?_) (fun hc => ?_)
          · replace h := Eq.mp (if_pos hc) h
            exact s_MO_look_185 X hk31 mo_newFloor mo_newGoals mo_newBoxes mo_newPerson mo_newWidth v1 v2 v3 v4 v5 v6 t0 _ _ _ h hP hD hS (lv_sub hl [1, 2, 3, 4, 5, 6, 7, 0] rfl)
          · replace h := Eq.mp (if_neg hc) h
            refine lv_iload X.1 X.2.1 dX6_look_176 (lv_at hl 5 rfl) ?_
            refine lv_bipush (v := (95 : Int32)) X.1 X.2.1 dX6_look_178 (by decide) ?_
            refine lv_icmp_eq (tgt := 185) X.1 X.2.1 dX6_look_180 (by decide) (fun hc => ?_) (fun hc => ?_)
            · replace h := Eq.mp (if_pos hc) h
              exact s_MO_look_185 X hk31 mo_newFloor mo_newGoals mo_newBoxes mo_newPerson mo_newWidth v1 v2 v3 v4 v5 v6 t0 _ _ _ h hP hD hS (lv_sub hl [1, 2, 3, 4, 5, 6, 7, 0] rfl)
            · replace h := Eq.mp (if_neg hc) h
              refine lv_iload_n X.1 X.2.1 dX6_look_183 rfl (lv_at hl 4 rfl) ?_
              exact g_iret X (mo_newFloor, mo_newGoals, mo_newBoxes, mo_newPerson, mo_newWidth) h hP hD hS dX6_look_184
set_option maxHeartbeats 4000000 in
set_option maxRecDepth 100000 in
theorem s_MO_look_124 {p : Program} {l : Launch} {e : Env} {s : State} {m : MethodId} {args : Array Value} {below : List Frame} {meth : Method} {c : Code} {G : gEnv} {A : Nat → Prop} {hMO : Nat} {hTM : Nat} {hDO : Nat} {hXB : Nat} {hXC : Nat} {hXF : Nat} {hXY : Nat} {hXS : Nat} {hXP : Nat} {hFA : Nat} {hLE : Nat} {mo_thrown : Int32} {mo_isBoard : Int32} {mo_width : Int32} {mo_height : Int32} {mo_person : Int32} {mo_moves : Int32} {mo_pushes : Int32} {mo_floor : Int64} {mo_goals : Int64} {mo_boxes : Int64} {mo_kept : Int32} {mo_many : Int32} {mo_taken : Int32} {mo_length : Int32} {mo_size : Int32} {aTM : Nat → Int32} {k31 : Int64 → Int64 → Int64 → Int32 → Int32 → Int32 → Int32 → Int32 → Prop} {post : Int32 → Int64 → Int64 → Int64 → Int32 → Int32 → Prop} (X : gX p m meth c cX6_look 10 RX6 (some .int) s args G A) (hk31 : ∀ (mo_newFloor' : Int64) (mo_newGoals' : Int64) (mo_newBoxes' : Int64) (mo_newPerson' : Int32) (mo_newWidth' : Int32) (v1' : Int32) (v2' : Int32) (v3' : Int32) (H : Heap) (locs : List Loc) (ls : Array Slot), k31 mo_newFloor' mo_newGoals' mo_newBoxes' mo_newPerson' mo_newWidth' v1' v2' v3' → va_P G.1 gCl [cMO hMO mo_thrown mo_size hTM mo_isBoard mo_width mo_height mo_person mo_moves mo_pushes mo_floor mo_goals mo_boxes mo_newFloor' mo_newGoals' mo_newBoxes' mo_newPerson' mo_newWidth' mo_kept hDO mo_many mo_taken mo_length hXB hXC hXF hXY hXS hXP hFA hLE, cI G hTM 160 aTM] H → va_D A [cMO hMO mo_thrown mo_size hTM mo_isBoard mo_width mo_height mo_person mo_moves mo_pushes mo_floor mo_goals mo_boxes mo_newFloor' mo_newGoals' mo_newBoxes' mo_newPerson' mo_newWidth' mo_kept hDO mo_many mo_taken mo_length hXB hXC hXF hXY hXS hXP hFA hLE, cI G hTM 160 aTM] → va_S A s.heap H locs → lv_has ls 10 [(0, .ref hMO), (1, .int v1'), (2, .int v2'), (3, .int v3')] → W p l e rm_MO_look s m args below meth c H locs 0 0 (MQ below (gQi G (fun (r : Int32) (u : Int64 × Int64 × Int64 × Int32 × Int32) => post r u.1 u.2.1 u.2.2.1 u.2.2.2.1 u.2.2.2.2) (fun (u : Int64 × Int64 × Int64 × Int32 × Int32) => [cMO hMO mo_thrown mo_size hTM mo_isBoard mo_width mo_height mo_person mo_moves mo_pushes mo_floor mo_goals mo_boxes u.1 u.2.1 u.2.2.1 u.2.2.2.1 u.2.2.2.2 mo_kept hDO mo_many mo_taken mo_length hXB hXC hXF hXY hXS hXP hFA hLE, cI G hTM 160 aTM]) A) args s 0 0 A) (F0 m 31 ls [])) : ∀ (mo_newFloor : Int64) (mo_newGoals : Int64) (mo_newBoxes : Int64) (mo_newPerson : Int32) (mo_newWidth : Int32) (v1 : Int32) (v2 : Int32) (v3 : Int32) (v4 : Int32) (v5 : Int32) (t0 : Int32) (H : Heap) (locs : List Loc) (ls : Array Slot), MO_look_124 mo_size aTM k31 post mo_newFloor mo_newGoals mo_newBoxes mo_newPerson mo_newWidth v1 v2 v3 v4 v5 t0 → va_P G.1 gCl [cMO hMO mo_thrown mo_size hTM mo_isBoard mo_width mo_height mo_person mo_moves mo_pushes mo_floor mo_goals mo_boxes mo_newFloor mo_newGoals mo_newBoxes mo_newPerson mo_newWidth mo_kept hDO mo_many mo_taken mo_length hXB hXC hXF hXY hXS hXP hFA hLE, cI G hTM 160 aTM] H → va_D A [cMO hMO mo_thrown mo_size hTM mo_isBoard mo_width mo_height mo_person mo_moves mo_pushes mo_floor mo_goals mo_boxes mo_newFloor mo_newGoals mo_newBoxes mo_newPerson mo_newWidth mo_kept hDO mo_many mo_taken mo_length hXB hXC hXF hXY hXS hXP hFA hLE, cI G hTM 160 aTM] → va_S A s.heap H locs → lv_has ls 10 [(0, .ref hMO), (1, .int v1), (2, .int v2), (3, .int v3), (4, .int v4), (5, .int v5)] → W p l e rm_MO_look s m args below meth c H locs 0 0 (MQ below (gQi G (fun (r : Int32) (u : Int64 × Int64 × Int64 × Int32 × Int32) => post r u.1 u.2.1 u.2.2.1 u.2.2.2.1 u.2.2.2.2) (fun (u : Int64 × Int64 × Int64 × Int32 × Int32) => [cMO hMO mo_thrown mo_size hTM mo_isBoard mo_width mo_height mo_person mo_moves mo_pushes mo_floor mo_goals mo_boxes u.1 u.2.1 u.2.2.1 u.2.2.2.1 u.2.2.2.2 mo_kept hDO mo_many mo_taken mo_length hXB hXC hXF hXY hXS hXP hFA hLE, cI G hTM 160 aTM]) A) args s 0 0 A) (F0 m 124 ls [.int t0]) := by
  intro mo_newFloor mo_newGoals mo_newBoxes mo_newPerson mo_newWidth v1 v2 v3 v4 v5 t0 H locs ls h hP hD hS hl
  unfold MO_look_124 at h
  refine lv_istore (lv' := [(6, .int t0), (0, .ref hMO), (1, .int v1), (2, .int v2), (3, .int v3), (4, .int v4), (5, .int v5)]) X.1 X.2.1 dX6_look_124 hl (by decide) rfl (fun ls hl => ?_)
  refine lv_iload X.1 X.2.1 dX6_look_126 (lv_at hl 5 rfl) ?_
  refine lv_bipush (v := (64 : Int32)) X.1 X.2.1 dX6_look_128 (by decide) ?_
  refine lv_icmp_eq (tgt := 140) X.1 X.2.1 dX6_look_130 (by decide) (fun hc => ?_) (fun hc => ?_)
  · replace h := Eq.mp (if_pos hc) h
    exact s_MO_look_140 X (fun mo_newFloor' mo_newGoals' mo_newBoxes' mo_newPerson' mo_newWidth' v1' v2' v3' v4' v5' v6' t0' H' locs' ls' h' hP' hD' hS' hl' => s_MO_look_145 X hk31 mo_newFloor' mo_newGoals' mo_newBoxes' mo_newPerson' mo_newWidth' v1' v2' v3' v4' v5' v6' t0' H' locs' ls' h' hP' hD' hS' hl') mo_newFloor mo_newGoals mo_newBoxes mo_newPerson mo_newWidth v1 v2 v3 v4 v5 t0 _ _ _ h hP hD hS (lv_sub hl [1, 2, 3, 4, 5, 6, 0] rfl)
  · replace h := Eq.mp (if_neg hc) h
    refine lv_iload X.1 X.2.1 dX6_look_133 (lv_at hl 5 rfl) ?_
    refine lv_bipush (v := (43 : Int32)) X.1 X.2.1 dX6_look_135 (by decide) ?_
    refine lv_icmp_ne (tgt := 144) X.1 X.2.1 dX6_look_137 (by decide) (fun hc => ?_) (fun hc => ?_)
    · replace h := Eq.mp (if_neg hc) h
      refine lv_iconst (v := (0 : Int32)) X.1 X.2.1 dX6_look_144 (by decide) ?_
      exact s_MO_look_145 X hk31 mo_newFloor mo_newGoals mo_newBoxes mo_newPerson mo_newWidth v1 v2 v3 v4 v5 t0 (0 : Int32) _ _ _ h hP hD hS (lv_sub hl [1, 2, 3, 4, 5, 6, 0] rfl)
    · replace h := Eq.mp (if_pos hc) h
      exact s_MO_look_140 X (fun mo_newFloor' mo_newGoals' mo_newBoxes' mo_newPerson' mo_newWidth' v1' v2' v3' v4' v5' v6' t0' H' locs' ls' h' hP' hD' hS' hl' => s_MO_look_145 X hk31 mo_newFloor' mo_newGoals' mo_newBoxes' mo_newPerson' mo_newWidth' v1' v2' v3' v4' v5' v6' t0' H' locs' ls' h' hP' hD' hS' hl') mo_newFloor mo_newGoals mo_newBoxes mo_newPerson mo_newWidth v1 v2 v3 v4 v5 t0 _ _ _ h hP hD hS (lv_sub hl [1, 2, 3, 4, 5, 6, 0] rfl)
set_option maxHeartbeats 4000000 in
set_option maxRecDepth 100000 in
theorem s_MO_look_103 {p : Program} {l : Launch} {e : Env} {s : State} {m : MethodId} {args : Array Value} {below : List Frame} {meth : Method} {c : Code} {G : gEnv} {A : Nat → Prop} {hMO : Nat} {hTM : Nat} {hDO : Nat} {hXB : Nat} {hXC : Nat} {hXF : Nat} {hXY : Nat} {hXS : Nat} {hXP : Nat} {hFA : Nat} {hLE : Nat} {mo_thrown : Int32} {mo_isBoard : Int32} {mo_width : Int32} {mo_height : Int32} {mo_person : Int32} {mo_moves : Int32} {mo_pushes : Int32} {mo_floor : Int64} {mo_goals : Int64} {mo_boxes : Int64} {mo_kept : Int32} {mo_many : Int32} {mo_taken : Int32} {mo_length : Int32} {mo_size : Int32} {aTM : Nat → Int32} {k31 : Int64 → Int64 → Int64 → Int32 → Int32 → Int32 → Int32 → Int32 → Prop} {post : Int32 → Int64 → Int64 → Int64 → Int32 → Int32 → Prop} (X : gX p m meth c cX6_look 10 RX6 (some .int) s args G A) (hk31 : ∀ (mo_newFloor' : Int64) (mo_newGoals' : Int64) (mo_newBoxes' : Int64) (mo_newPerson' : Int32) (mo_newWidth' : Int32) (v1' : Int32) (v2' : Int32) (v3' : Int32) (H : Heap) (locs : List Loc) (ls : Array Slot), k31 mo_newFloor' mo_newGoals' mo_newBoxes' mo_newPerson' mo_newWidth' v1' v2' v3' → va_P G.1 gCl [cMO hMO mo_thrown mo_size hTM mo_isBoard mo_width mo_height mo_person mo_moves mo_pushes mo_floor mo_goals mo_boxes mo_newFloor' mo_newGoals' mo_newBoxes' mo_newPerson' mo_newWidth' mo_kept hDO mo_many mo_taken mo_length hXB hXC hXF hXY hXS hXP hFA hLE, cI G hTM 160 aTM] H → va_D A [cMO hMO mo_thrown mo_size hTM mo_isBoard mo_width mo_height mo_person mo_moves mo_pushes mo_floor mo_goals mo_boxes mo_newFloor' mo_newGoals' mo_newBoxes' mo_newPerson' mo_newWidth' mo_kept hDO mo_many mo_taken mo_length hXB hXC hXF hXY hXS hXP hFA hLE, cI G hTM 160 aTM] → va_S A s.heap H locs → lv_has ls 10 [(0, .ref hMO), (1, .int v1'), (2, .int v2'), (3, .int v3')] → W p l e rm_MO_look s m args below meth c H locs 0 0 (MQ below (gQi G (fun (r : Int32) (u : Int64 × Int64 × Int64 × Int32 × Int32) => post r u.1 u.2.1 u.2.2.1 u.2.2.2.1 u.2.2.2.2) (fun (u : Int64 × Int64 × Int64 × Int32 × Int32) => [cMO hMO mo_thrown mo_size hTM mo_isBoard mo_width mo_height mo_person mo_moves mo_pushes mo_floor mo_goals mo_boxes u.1 u.2.1 u.2.2.1 u.2.2.2.1 u.2.2.2.2 mo_kept hDO mo_many mo_taken mo_length hXB hXC hXF hXY hXS hXP hFA hLE, cI G hTM 160 aTM]) A) args s 0 0 A) (F0 m 31 ls [])) : ∀ (mo_newFloor : Int64) (mo_newGoals : Int64) (mo_newBoxes : Int64) (mo_newPerson : Int32) (mo_newWidth : Int32) (v1 : Int32) (v2 : Int32) (v3 : Int32) (v4 : Int32) (t0 : Int32) (H : Heap) (locs : List Loc) (ls : Array Slot), MO_look_103 mo_size aTM k31 post mo_newFloor mo_newGoals mo_newBoxes mo_newPerson mo_newWidth v1 v2 v3 v4 t0 → va_P G.1 gCl [cMO hMO mo_thrown mo_size hTM mo_isBoard mo_width mo_height mo_person mo_moves mo_pushes mo_floor mo_goals mo_boxes mo_newFloor mo_newGoals mo_newBoxes mo_newPerson mo_newWidth mo_kept hDO mo_many mo_taken mo_length hXB hXC hXF hXY hXS hXP hFA hLE, cI G hTM 160 aTM] H → va_D A [cMO hMO mo_thrown mo_size hTM mo_isBoard mo_width mo_height mo_person mo_moves mo_pushes mo_floor mo_goals mo_boxes mo_newFloor mo_newGoals mo_newBoxes mo_newPerson mo_newWidth mo_kept hDO mo_many mo_taken mo_length hXB hXC hXF hXY hXS hXP hFA hLE, cI G hTM 160 aTM] → va_S A s.heap H locs → lv_has ls 10 [(0, .ref hMO), (1, .int v1), (2, .int v2), (3, .int v3), (4, .int v4)] → W p l e rm_MO_look s m args below meth c H locs 0 0 (MQ below (gQi G (fun (r : Int32) (u : Int64 × Int64 × Int64 × Int32 × Int32) => post r u.1 u.2.1 u.2.2.1 u.2.2.2.1 u.2.2.2.2) (fun (u : Int64 × Int64 × Int64 × Int32 × Int32) => [cMO hMO mo_thrown mo_size hTM mo_isBoard mo_width mo_height mo_person mo_moves mo_pushes mo_floor mo_goals mo_boxes u.1 u.2.1 u.2.2.1 u.2.2.2.1 u.2.2.2.2 mo_kept hDO mo_many mo_taken mo_length hXB hXC hXF hXY hXS hXP hFA hLE, cI G hTM 160 aTM]) A) args s 0 0 A) (F0 m 103 ls [.int t0]) := by
  intro mo_newFloor mo_newGoals mo_newBoxes mo_newPerson mo_newWidth v1 v2 v3 v4 t0 H locs ls h hP hD hS hl
  unfold MO_look_103 at h
  refine lv_istore (lv' := [(5, .int t0), (0, .ref hMO), (1, .int v1), (2, .int v2), (3, .int v3), (4, .int v4)]) X.1 X.2.1 dX6_look_103 hl (by decide) rfl (fun ls hl => ?_)
  refine lv_iload X.1 X.2.1 dX6_look_105 (lv_at hl 5 rfl) ?_
  refine lv_bipush (v := (36 : Int32)) X.1 X.2.1 dX6_look_107 (by decide) ?_
  refine lv_icmp_eq (tgt := 119) X.1 X.2.1 dX6_look_109 (by decide) (fun hc => ?_) (fun hc => ?_)
  · replace h := Eq.mp (if_pos hc) h
    exact s_MO_look_119 X (fun mo_newFloor' mo_newGoals' mo_newBoxes' mo_newPerson' mo_newWidth' v1' v2' v3' v4' v5' t0' H' locs' ls' h' hP' hD' hS' hl' => s_MO_look_124 X hk31 mo_newFloor' mo_newGoals' mo_newBoxes' mo_newPerson' mo_newWidth' v1' v2' v3' v4' v5' t0' H' locs' ls' h' hP' hD' hS' hl') mo_newFloor mo_newGoals mo_newBoxes mo_newPerson mo_newWidth v1 v2 v3 v4 t0 _ _ _ h hP hD hS (lv_sub hl [1, 2, 3, 4, 5, 0] rfl)
  · replace h := Eq.mp (if_neg hc) h
    refine lv_iload X.1 X.2.1 dX6_look_112 (lv_at hl 5 rfl) ?_
    refine lv_bipush (v := (42 : Int32)) X.1 X.2.1 dX6_look_114 (by decide) ?_
    refine lv_icmp_ne (tgt := 123) X.1 X.2.1 dX6_look_116 (by decide) (fun hc => ?_) (fun hc => ?_)
    · replace h := Eq.mp (if_neg hc) h
      refine lv_iconst (v := (0 : Int32)) X.1 X.2.1 dX6_look_123 (by decide) ?_
      exact s_MO_look_124 X hk31 mo_newFloor mo_newGoals mo_newBoxes mo_newPerson mo_newWidth v1 v2 v3 v4 t0 (0 : Int32) _ _ _ h hP hD hS (lv_sub hl [1, 2, 3, 4, 5, 0] rfl)
    · replace h := Eq.mp (if_pos hc) h
      exact s_MO_look_119 X (fun mo_newFloor' mo_newGoals' mo_newBoxes' mo_newPerson' mo_newWidth' v1' v2' v3' v4' v5' t0' H' locs' ls' h' hP' hD' hS' hl' => s_MO_look_124 X hk31 mo_newFloor' mo_newGoals' mo_newBoxes' mo_newPerson' mo_newWidth' v1' v2' v3' v4' v5' t0' H' locs' ls' h' hP' hD' hS' hl') mo_newFloor mo_newGoals mo_newBoxes mo_newPerson mo_newWidth v1 v2 v3 v4 t0 _ _ _ h hP hD hS (lv_sub hl [1, 2, 3, 4, 5, 0] rfl)
set_option maxHeartbeats 4000000 in
set_option maxRecDepth 100000 in
theorem s_MO_look_69 {p : Program} {l : Launch} {e : Env} {s : State} {m : MethodId} {args : Array Value} {below : List Frame} {meth : Method} {c : Code} {G : gEnv} {A : Nat → Prop} {hMO : Nat} {hTM : Nat} {hDO : Nat} {hXB : Nat} {hXC : Nat} {hXF : Nat} {hXY : Nat} {hXS : Nat} {hXP : Nat} {hFA : Nat} {hLE : Nat} {mo_thrown : Int32} {mo_isBoard : Int32} {mo_width : Int32} {mo_height : Int32} {mo_person : Int32} {mo_moves : Int32} {mo_pushes : Int32} {mo_floor : Int64} {mo_goals : Int64} {mo_boxes : Int64} {mo_kept : Int32} {mo_many : Int32} {mo_taken : Int32} {mo_length : Int32} {mo_size : Int32} {aTM : Nat → Int32} {k31 : Int64 → Int64 → Int64 → Int32 → Int32 → Int32 → Int32 → Int32 → Prop} {post : Int32 → Int64 → Int64 → Int64 → Int32 → Int32 → Prop} (X : gX p m meth c cX6_look 10 RX6 (some .int) s args G A) (hk31 : ∀ (mo_newFloor' : Int64) (mo_newGoals' : Int64) (mo_newBoxes' : Int64) (mo_newPerson' : Int32) (mo_newWidth' : Int32) (v1' : Int32) (v2' : Int32) (v3' : Int32) (H : Heap) (locs : List Loc) (ls : Array Slot), k31 mo_newFloor' mo_newGoals' mo_newBoxes' mo_newPerson' mo_newWidth' v1' v2' v3' → va_P G.1 gCl [cMO hMO mo_thrown mo_size hTM mo_isBoard mo_width mo_height mo_person mo_moves mo_pushes mo_floor mo_goals mo_boxes mo_newFloor' mo_newGoals' mo_newBoxes' mo_newPerson' mo_newWidth' mo_kept hDO mo_many mo_taken mo_length hXB hXC hXF hXY hXS hXP hFA hLE, cI G hTM 160 aTM] H → va_D A [cMO hMO mo_thrown mo_size hTM mo_isBoard mo_width mo_height mo_person mo_moves mo_pushes mo_floor mo_goals mo_boxes mo_newFloor' mo_newGoals' mo_newBoxes' mo_newPerson' mo_newWidth' mo_kept hDO mo_many mo_taken mo_length hXB hXC hXF hXY hXS hXP hFA hLE, cI G hTM 160 aTM] → va_S A s.heap H locs → lv_has ls 10 [(0, .ref hMO), (1, .int v1'), (2, .int v2'), (3, .int v3')] → W p l e rm_MO_look s m args below meth c H locs 0 0 (MQ below (gQi G (fun (r : Int32) (u : Int64 × Int64 × Int64 × Int32 × Int32) => post r u.1 u.2.1 u.2.2.1 u.2.2.2.1 u.2.2.2.2) (fun (u : Int64 × Int64 × Int64 × Int32 × Int32) => [cMO hMO mo_thrown mo_size hTM mo_isBoard mo_width mo_height mo_person mo_moves mo_pushes mo_floor mo_goals mo_boxes u.1 u.2.1 u.2.2.1 u.2.2.2.1 u.2.2.2.2 mo_kept hDO mo_many mo_taken mo_length hXB hXC hXF hXY hXS hXP hFA hLE, cI G hTM 160 aTM]) A) args s 0 0 A) (F0 m 31 ls [])) : ∀ (mo_newFloor : Int64) (mo_newGoals : Int64) (mo_newBoxes : Int64) (mo_newPerson : Int32) (mo_newWidth : Int32) (v2 : Int32) (v3 : Int32) (H : Heap) (locs : List Loc) (ls : Array Slot), MO_look_69 mo_size aTM k31 post mo_newFloor mo_newGoals mo_newBoxes mo_newPerson mo_newWidth v2 v3 → va_P G.1 gCl [cMO hMO mo_thrown mo_size hTM mo_isBoard mo_width mo_height mo_person mo_moves mo_pushes mo_floor mo_goals mo_boxes mo_newFloor mo_newGoals mo_newBoxes mo_newPerson mo_newWidth mo_kept hDO mo_many mo_taken mo_length hXB hXC hXF hXY hXS hXP hFA hLE, cI G hTM 160 aTM] H → va_D A [cMO hMO mo_thrown mo_size hTM mo_isBoard mo_width mo_height mo_person mo_moves mo_pushes mo_floor mo_goals mo_boxes mo_newFloor mo_newGoals mo_newBoxes mo_newPerson mo_newWidth mo_kept hDO mo_many mo_taken mo_length hXB hXC hXF hXY hXS hXP hFA hLE, cI G hTM 160 aTM] → va_S A s.heap H locs → lv_has ls 10 [(0, .ref hMO), (2, .int v2), (3, .int v3)] → W p l e rm_MO_look s m args below meth c H locs 0 0 (MQ below (gQi G (fun (r : Int32) (u : Int64 × Int64 × Int64 × Int32 × Int32) => post r u.1 u.2.1 u.2.2.1 u.2.2.2.1 u.2.2.2.2) (fun (u : Int64 × Int64 × Int64 × Int32 × Int32) => [cMO hMO mo_thrown mo_size hTM mo_isBoard mo_width mo_height mo_person mo_moves mo_pushes mo_floor mo_goals mo_boxes u.1 u.2.1 u.2.2.1 u.2.2.2.1 u.2.2.2.2 mo_kept hDO mo_many mo_taken mo_length hXB hXC hXF hXY hXS hXP hFA hLE, cI G hTM 160 aTM]) A) args s 0 0 A) (F0 m 69 ls []) := by
  intro mo_newFloor mo_newGoals mo_newBoxes mo_newPerson mo_newWidth v2 v3 H locs ls h hP hD hS hl
  unfold MO_look_69 at h
  refine lv_iinc (v := (v2 + (1 : Int32))) (lv' := [(2, .int (v2 + (1 : Int32))), (0, .ref hMO), (3, .int v3)]) X.1 X.2.1 dX6_look_69 hl (k := 1) rfl rfl (by decide) rfl (fun ls hl => ?_)
  refine lv_iconst (v := (0 : Int32)) X.1 X.2.1 dX6_look_72 (by decide) ?_
  refine lv_istore_n (lv' := [(1, .int (0 : Int32)), (2, .int (v2 + (1 : Int32))), (0, .ref hMO), (3, .int v3)]) X.1 X.2.1 dX6_look_73 rfl hl (by decide) rfl (fun ls hl => ?_)
  refine lv_goto (tgt := 365) X.1 X.2.1 dX6_look_74 (by decide) ?_
  refine lv_iinc (v := (v3 + (1 : Int32))) (lv' := [(3, .int (v3 + (1 : Int32))), (1, .int (0 : Int32)), (2, .int (v2 + (1 : Int32))), (0, .ref hMO)]) X.1 X.2.1 dX6_look_365 hl (k := 3) rfl rfl (by decide) rfl (fun ls hl => ?_)
  refine lv_goto (tgt := 31) X.1 X.2.1 dX6_look_368 (by decide) ?_
  exact hk31 mo_newFloor mo_newGoals mo_newBoxes mo_newPerson mo_newWidth (0 : Int32) (v2 + (1 : Int32)) (v3 + (1 : Int32)) _ _ _ h hP hD hS (lv_sub hl [3, 1, 2, 0] rfl)
set_option maxHeartbeats 4000000 in
set_option maxRecDepth 100000 in
theorem s_MO_look_98 {p : Program} {l : Launch} {e : Env} {s : State} {m : MethodId} {args : Array Value} {below : List Frame} {meth : Method} {c : Code} {G : gEnv} {A : Nat → Prop} {hMO : Nat} {hTM : Nat} {hDO : Nat} {hXB : Nat} {hXC : Nat} {hXF : Nat} {hXY : Nat} {hXS : Nat} {hXP : Nat} {hFA : Nat} {hLE : Nat} {mo_thrown : Int32} {mo_isBoard : Int32} {mo_width : Int32} {mo_height : Int32} {mo_person : Int32} {mo_moves : Int32} {mo_pushes : Int32} {mo_floor : Int64} {mo_goals : Int64} {mo_boxes : Int64} {mo_kept : Int32} {mo_many : Int32} {mo_taken : Int32} {mo_length : Int32} {mo_size : Int32} {aTM : Nat → Int32} {k103 : Int64 → Int64 → Int64 → Int32 → Int32 → Int32 → Int32 → Int32 → Int32 → Int32 → Prop} {post : Int32 → Int64 → Int64 → Int64 → Int32 → Int32 → Prop} (X : gX p m meth c cX6_look 10 RX6 (some .int) s args G A) (hk103 : ∀ (mo_newFloor' : Int64) (mo_newGoals' : Int64) (mo_newBoxes' : Int64) (mo_newPerson' : Int32) (mo_newWidth' : Int32) (v1' : Int32) (v2' : Int32) (v3' : Int32) (v4' : Int32) (t0' : Int32) (H : Heap) (locs : List Loc) (ls : Array Slot), k103 mo_newFloor' mo_newGoals' mo_newBoxes' mo_newPerson' mo_newWidth' v1' v2' v3' v4' t0' → va_P G.1 gCl [cMO hMO mo_thrown mo_size hTM mo_isBoard mo_width mo_height mo_person mo_moves mo_pushes mo_floor mo_goals mo_boxes mo_newFloor' mo_newGoals' mo_newBoxes' mo_newPerson' mo_newWidth' mo_kept hDO mo_many mo_taken mo_length hXB hXC hXF hXY hXS hXP hFA hLE, cI G hTM 160 aTM] H → va_D A [cMO hMO mo_thrown mo_size hTM mo_isBoard mo_width mo_height mo_person mo_moves mo_pushes mo_floor mo_goals mo_boxes mo_newFloor' mo_newGoals' mo_newBoxes' mo_newPerson' mo_newWidth' mo_kept hDO mo_many mo_taken mo_length hXB hXC hXF hXY hXS hXP hFA hLE, cI G hTM 160 aTM] → va_S A s.heap H locs → lv_has ls 10 [(0, .ref hMO), (1, .int v1'), (2, .int v2'), (3, .int v3'), (4, .int v4')] → W p l e rm_MO_look s m args below meth c H locs 0 0 (MQ below (gQi G (fun (r : Int32) (u : Int64 × Int64 × Int64 × Int32 × Int32) => post r u.1 u.2.1 u.2.2.1 u.2.2.2.1 u.2.2.2.2) (fun (u : Int64 × Int64 × Int64 × Int32 × Int32) => [cMO hMO mo_thrown mo_size hTM mo_isBoard mo_width mo_height mo_person mo_moves mo_pushes mo_floor mo_goals mo_boxes u.1 u.2.1 u.2.2.1 u.2.2.2.1 u.2.2.2.2 mo_kept hDO mo_many mo_taken mo_length hXB hXC hXF hXY hXS hXP hFA hLE, cI G hTM 160 aTM]) A) args s 0 0 A) (F0 m 103 ls [.int t0'])) : ∀ (mo_newFloor : Int64) (mo_newGoals : Int64) (mo_newBoxes : Int64) (mo_newPerson : Int32) (mo_newWidth : Int32) (v1 : Int32) (v2 : Int32) (v3 : Int32) (v4 : Int32) (H : Heap) (locs : List Loc) (ls : Array Slot), MO_look_98 mo_size aTM k103 post mo_newFloor mo_newGoals mo_newBoxes mo_newPerson mo_newWidth v1 v2 v3 v4 → va_P G.1 gCl [cMO hMO mo_thrown mo_size hTM mo_isBoard mo_width mo_height mo_person mo_moves mo_pushes mo_floor mo_goals mo_boxes mo_newFloor mo_newGoals mo_newBoxes mo_newPerson mo_newWidth mo_kept hDO mo_many mo_taken mo_length hXB hXC hXF hXY hXS hXP hFA hLE, cI G hTM 160 aTM] H → va_D A [cMO hMO mo_thrown mo_size hTM mo_isBoard mo_width mo_height mo_person mo_moves mo_pushes mo_floor mo_goals mo_boxes mo_newFloor mo_newGoals mo_newBoxes mo_newPerson mo_newWidth mo_kept hDO mo_many mo_taken mo_length hXB hXC hXF hXY hXS hXP hFA hLE, cI G hTM 160 aTM] → va_S A s.heap H locs → lv_has ls 10 [(0, .ref hMO), (1, .int v1), (2, .int v2), (3, .int v3), (4, .int v4)] → W p l e rm_MO_look s m args below meth c H locs 0 0 (MQ below (gQi G (fun (r : Int32) (u : Int64 × Int64 × Int64 × Int32 × Int32) => post r u.1 u.2.1 u.2.2.1 u.2.2.2.1 u.2.2.2.2) (fun (u : Int64 × Int64 × Int64 × Int32 × Int32) => [cMO hMO mo_thrown mo_size hTM mo_isBoard mo_width mo_height mo_person mo_moves mo_pushes mo_floor mo_goals mo_boxes u.1 u.2.1 u.2.2.1 u.2.2.2.1 u.2.2.2.2 mo_kept hDO mo_many mo_taken mo_length hXB hXC hXF hXY hXS hXP hFA hLE, cI G hTM 160 aTM]) A) args s 0 0 A) (F0 m 98 ls []) := by
  intro mo_newFloor mo_newGoals mo_newBoxes mo_newPerson mo_newWidth v1 v2 v3 v4 H locs ls h hP hD hS hl
  unfold MO_look_98 at h
  refine lv_iconst (v := (1 : Int32)) X.1 X.2.1 dX6_look_98 (by decide) ?_
  refine lv_goto (tgt := 103) X.1 X.2.1 dX6_look_99 (by decide) ?_
  exact hk103 mo_newFloor mo_newGoals mo_newBoxes mo_newPerson mo_newWidth v1 v2 v3 v4 (1 : Int32) _ _ _ h hP hD hS (lv_sub hl [0, 1, 2, 3, 4] rfl)
set_option maxHeartbeats 4000000 in
set_option maxRecDepth 100000 in
theorem s_MO_look_31 {p : Program} {l : Launch} {e : Env} {s : State} {m : MethodId} {args : Array Value} {below : List Frame} {meth : Method} {c : Code} {G : gEnv} {A : Nat → Prop} {hMO : Nat} {hTM : Nat} {hDO : Nat} {hXB : Nat} {hXC : Nat} {hXF : Nat} {hXY : Nat} {hXS : Nat} {hXP : Nat} {hFA : Nat} {hLE : Nat} {mo_thrown : Int32} {mo_isBoard : Int32} {mo_width : Int32} {mo_height : Int32} {mo_person : Int32} {mo_moves : Int32} {mo_pushes : Int32} {mo_floor : Int64} {mo_goals : Int64} {mo_boxes : Int64} {mo_kept : Int32} {mo_many : Int32} {mo_taken : Int32} {mo_length : Int32} {mo_size : Int32} {aTM : Nat → Int32} {post : Int32 → Int64 → Int64 → Int64 → Int32 → Int32 → Prop} (X : gX p m meth c cX6_look 10 RX6 (some .int) s args G A)  : ∀ (n : Nat) (mo_newFloor : Int64) (mo_newGoals : Int64) (mo_newBoxes : Int64) (mo_newPerson : Int32) (mo_newWidth : Int32) (v1 : Int32) (v2 : Int32) (v3 : Int32) (H : Heap) (locs : List Loc) (ls : Array Slot), MO_look_31 mo_size aTM post n mo_newFloor mo_newGoals mo_newBoxes mo_newPerson mo_newWidth v1 v2 v3 → va_P G.1 gCl [cMO hMO mo_thrown mo_size hTM mo_isBoard mo_width mo_height mo_person mo_moves mo_pushes mo_floor mo_goals mo_boxes mo_newFloor mo_newGoals mo_newBoxes mo_newPerson mo_newWidth mo_kept hDO mo_many mo_taken mo_length hXB hXC hXF hXY hXS hXP hFA hLE, cI G hTM 160 aTM] H → va_D A [cMO hMO mo_thrown mo_size hTM mo_isBoard mo_width mo_height mo_person mo_moves mo_pushes mo_floor mo_goals mo_boxes mo_newFloor mo_newGoals mo_newBoxes mo_newPerson mo_newWidth mo_kept hDO mo_many mo_taken mo_length hXB hXC hXF hXY hXS hXP hFA hLE, cI G hTM 160 aTM] → va_S A s.heap H locs → lv_has ls 10 [(0, .ref hMO), (1, .int v1), (2, .int v2), (3, .int v3)] → W p l e rm_MO_look s m args below meth c H locs 0 0 (MQ below (gQi G (fun (r : Int32) (u : Int64 × Int64 × Int64 × Int32 × Int32) => post r u.1 u.2.1 u.2.2.1 u.2.2.2.1 u.2.2.2.2) (fun (u : Int64 × Int64 × Int64 × Int32 × Int32) => [cMO hMO mo_thrown mo_size hTM mo_isBoard mo_width mo_height mo_person mo_moves mo_pushes mo_floor mo_goals mo_boxes u.1 u.2.1 u.2.2.1 u.2.2.2.1 u.2.2.2.2 mo_kept hDO mo_many mo_taken mo_length hXB hXC hXF hXY hXS hXP hFA hLE, cI G hTM 160 aTM]) A) args s 0 0 A) (F0 m 31 ls []) := by
  intro n
  induction n with
  | zero => intro mo_newFloor mo_newGoals mo_newBoxes mo_newPerson mo_newWidth v1 v2 v3 H locs ls h _ _ _ _; exact h.elim
  | succ n ih =>
    intro mo_newFloor mo_newGoals mo_newBoxes mo_newPerson mo_newWidth v1 v2 v3 H locs ls h hP hD hS hl
    unfold MO_look_31 at h
    refine lv_iload_n X.1 X.2.1 dX6_look_31 rfl (lv_at hl 3 rfl) ?_
    refine lv_aload_n X.1 X.2.1 dX6_look_32 rfl (lv_at hl 0 rfl) ?_
    refine g_get X hP 0 6 1 (v := .int mo_size) rfl rfl inX6 (by decide) fl_X6_56 rfl dX6_look_33 ?_
    refine lv_icmp_ge (tgt := 371) X.1 X.2.1 dX6_look_36 (by decide) (fun hc => ?_) (fun hc => ?_)
    · replace h := Eq.mp (if_pos hc) h
      refine lv_iconst (v := (-1 : Int32)) X.1 X.2.1 dX6_look_371 (by decide) ?_
      exact g_iret X (mo_newFloor, mo_newGoals, mo_newBoxes, mo_newPerson, mo_newWidth) h hP hD hS dX6_look_372
    · replace h := Eq.mp (if_neg hc) h
      refine lv_aload_n X.1 X.2.1 dX6_look_39 rfl (lv_at hl 0 rfl) ?_
      refine g_get X hP 0 6 2 (v := .ref hTM) rfl rfl inX6 (by decide) fl_X6_7 rfl dX6_look_40 ?_
      refine lv_iload_n X.1 X.2.1 dX6_look_43 rfl (lv_at hl 3 rfl) ?_
      obtain ⟨hin, h⟩ := h
      refine va_iald (D := G.1) X.1 X.2.1 X.k.1 hP 1 0 rfl rfl hin dX6_look_44 ?_
      refine lv_topi (fun v4_1 e_v4_1 => ?_)
      replace h := h v4_1 e_v4_1
      refine lv_istore (lv' := [(4, .int v4_1), (0, .ref hMO), (1, .int v1), (2, .int v2), (3, .int v3)]) X.1 X.2.1 dX6_look_45 hl (by decide) rfl (fun ls hl => ?_)
      refine lv_iload_n X.1 X.2.1 dX6_look_47 rfl (lv_at hl 3 rfl) ?_
      refine lv_bipush (v := (8 : Int32)) X.1 X.2.1 dX6_look_48 (by decide) ?_
      refine lv_icmp_ne (tgt := 55) X.1 X.2.1 dX6_look_50 (by decide) (fun hc => ?_) (fun hc => ?_)
      · replace h := Eq.mp (if_neg hc) h
        refine lv_iload X.1 X.2.1 dX6_look_55 (lv_at hl 0 rfl) ?_
        refine lv_bipush (v := (10 : Int32)) X.1 X.2.1 dX6_look_57 (by decide) ?_
        refine lv_icmp_eq (tgt := 69) X.1 X.2.1 dX6_look_59 (by decide) (fun hc => ?_) (fun hc => ?_)
        · replace h := Eq.mp (if_pos hc) h
          exact s_MO_look_69 X (fun mo_newFloor' mo_newGoals' mo_newBoxes' mo_newPerson' mo_newWidth' v1' v2' v3' H' locs' ls' h' hP' hD' hS' hl' => ih mo_newFloor' mo_newGoals' mo_newBoxes' mo_newPerson' mo_newWidth' v1' v2' v3' H' locs' ls' h' hP' hD' hS' hl') mo_newFloor mo_newGoals mo_newBoxes mo_newPerson mo_newWidth v2 v3 _ _ _ h hP hD hS (lv_sub hl [1, 3, 4] rfl)
        · replace h := Eq.mp (if_neg hc) h
          refine lv_iload X.1 X.2.1 dX6_look_62 (lv_at hl 0 rfl) ?_
          refine lv_bipush (v := (124 : Int32)) X.1 X.2.1 dX6_look_64 (by decide) ?_
          refine lv_icmp_ne (tgt := 77) X.1 X.2.1 dX6_look_66 (by decide) (fun hc => ?_) (fun hc => ?_)
          · replace h := Eq.mp (if_neg hc) h
            refine lv_iload X.1 X.2.1 dX6_look_77 (lv_at hl 0 rfl) ?_
            refine lv_bipush (v := (46 : Int32)) X.1 X.2.1 dX6_look_79 (by decide) ?_
            refine lv_icmp_eq (tgt := 98) X.1 X.2.1 dX6_look_81 (by decide) (fun hc => ?_) (fun hc => ?_)
            · replace h := Eq.mp (if_pos hc) h
              exact s_MO_look_98 X (fun mo_newFloor' mo_newGoals' mo_newBoxes' mo_newPerson' mo_newWidth' v1' v2' v3' v4' t0' H' locs' ls' h' hP' hD' hS' hl' => s_MO_look_103 X (fun mo_newFloor' mo_newGoals' mo_newBoxes' mo_newPerson' mo_newWidth' v1' v2' v3' H' locs' ls' h' hP' hD' hS' hl' => ih mo_newFloor' mo_newGoals' mo_newBoxes' mo_newPerson' mo_newWidth' v1' v2' v3' H' locs' ls' h' hP' hD' hS' hl') mo_newFloor' mo_newGoals' mo_newBoxes' mo_newPerson' mo_newWidth' v1' v2' v3' v4' t0' H' locs' ls' h' hP' hD' hS' hl') mo_newFloor mo_newGoals mo_newBoxes mo_newPerson mo_newWidth v1 v2 v3 v4_1 _ _ _ h hP hD hS (lv_sub hl [1, 2, 3, 4, 0] rfl)
            · replace h := Eq.mp (if_neg hc) h
              refine lv_iload X.1 X.2.1 dX6_look_84 (lv_at hl 0 rfl) ?_
              refine lv_bipush (v := (42 : Int32)) X.1 X.2.1 dX6_look_86 (by decide) ?_
              refine lv_icmp_eq (tgt := 98) X.1 X.2.1 dX6_look_88 (by decide) (fun hc => ?_) (fun hc => ?_)
              · replace h := Eq.mp (if_pos hc) h
                exact s_MO_look_98 X (fun mo_newFloor' mo_newGoals' mo_newBoxes' mo_newPerson' mo_newWidth' v1' v2' v3' v4' t0' H' locs' ls' h' hP' hD' hS' hl' => s_MO_look_103 X (fun mo_newFloor' mo_newGoals' mo_newBoxes' mo_newPerson' mo_newWidth' v1' v2' v3' H' locs' ls' h' hP' hD' hS' hl' => ih mo_newFloor' mo_newGoals' mo_newBoxes' mo_newPerson' mo_newWidth' v1' v2' v3' H' locs' ls' h' hP' hD' hS' hl') mo_newFloor' mo_newGoals' mo_newBoxes' mo_newPerson' mo_newWidth' v1' v2' v3' v4' t0' H' locs' ls' h' hP' hD' hS' hl') mo_newFloor mo_newGoals mo_newBoxes mo_newPerson mo_newWidth v1 v2 v3 v4_1 _ _ _ h hP hD hS (lv_sub hl [1, 2, 3, 4, 0] rfl)
              · replace h := Eq.mp (if_neg hc) h
                refine lv_iload X.1 X.2.1 dX6_look_91 (lv_at hl 0 rfl) ?_
                refine lv_bipush (v := (43 : Int32)) X.1 X.2.1 dX6_look_93 (by decide) ?_
                refine lv_icmp_ne (tgt := 102) X.1 X.2.1 dX6_look_95 (by decide) (fun hc => ?_) (fun hc => ?_)
                · replace h := Eq.mp (if_neg hc) h
                  refine lv_iconst (v := (0 : Int32)) X.1 X.2.1 dX6_look_102 (by decide) ?_
                  exact s_MO_look_103 X (fun mo_newFloor' mo_newGoals' mo_newBoxes' mo_newPerson' mo_newWidth' v1' v2' v3' H' locs' ls' h' hP' hD' hS' hl' => ih mo_newFloor' mo_newGoals' mo_newBoxes' mo_newPerson' mo_newWidth' v1' v2' v3' H' locs' ls' h' hP' hD' hS' hl') mo_newFloor mo_newGoals mo_newBoxes mo_newPerson mo_newWidth v1 v2 v3 v4_1 (0 : Int32) _ _ _ h hP hD hS (lv_sub hl [1, 2, 3, 4, 0] rfl)
                · replace h := Eq.mp (if_pos hc) h
                  exact s_MO_look_98 X (fun mo_newFloor' mo_newGoals' mo_newBoxes' mo_newPerson' mo_newWidth' v1' v2' v3' v4' t0' H' locs' ls' h' hP' hD' hS' hl' => s_MO_look_103 X (fun mo_newFloor' mo_newGoals' mo_newBoxes' mo_newPerson' mo_newWidth' v1' v2' v3' H' locs' ls' h' hP' hD' hS' hl' => ih mo_newFloor' mo_newGoals' mo_newBoxes' mo_newPerson' mo_newWidth' v1' v2' v3' H' locs' ls' h' hP' hD' hS' hl') mo_newFloor' mo_newGoals' mo_newBoxes' mo_newPerson' mo_newWidth' v1' v2' v3' v4' t0' H' locs' ls' h' hP' hD' hS' hl') mo_newFloor mo_newGoals mo_newBoxes mo_newPerson mo_newWidth v1 v2 v3 v4_1 _ _ _ h hP hD hS (lv_sub hl [1, 2, 3, 4, 0] rfl)
          · replace h := Eq.mp (if_pos hc) h
            exact s_MO_look_69 X (fun mo_newFloor' mo_newGoals' mo_newBoxes' mo_newPerson' mo_newWidth' v1' v2' v3' H' locs' ls' h' hP' hD' hS' hl' => ih mo_newFloor' mo_newGoals' mo_newBoxes' mo_newPerson' mo_newWidth' v1' v2' v3' H' locs' ls' h' hP' hD' hS' hl') mo_newFloor mo_newGoals mo_newBoxes mo_newPerson mo_newWidth v2 v3 _ _ _ h hP hD hS (lv_sub hl [1, 3, 4] rfl)
      · replace h := Eq.mp (if_pos hc) h
        refine lv_iload_n X.1 X.2.1 dX6_look_53 rfl (lv_at hl 4 rfl) ?_
        exact g_iret X (mo_newFloor, mo_newGoals, mo_newBoxes, mo_newPerson, mo_newWidth) h hP hD hS dX6_look_54
set_option maxHeartbeats 4000000 in
set_option maxRecDepth 100000 in
theorem c_MO_look (l : Launch) (G : gEnv) (hMO : Nat) (hTM : Nat) (hDO : Nat) (hXB : Nat) (hXC : Nat) (hXF : Nat) (hXY : Nat) (hXS : Nat) (hXP : Nat) (hFA : Nat) (hLE : Nat) (mo_thrown : Int32) (mo_size : Int32) (mo_isBoard : Int32) (mo_width : Int32) (mo_height : Int32) (mo_person : Int32) (mo_moves : Int32) (mo_pushes : Int32) (mo_floor : Int64) (mo_goals : Int64) (mo_boxes : Int64) (mo_newFloor : Int64) (mo_newGoals : Int64) (mo_newBoxes : Int64) (mo_newPerson : Int32) (mo_newWidth : Int32) (mo_kept : Int32) (mo_many : Int32) (mo_taken : Int32) (mo_length : Int32) (aTM : Nat → Int32) (post : Int32 → Int64 → Int64 → Int64 → Int32 → Int32 → Prop) (h : MO_look mo_size aTM mo_newFloor mo_newGoals mo_newBoxes mo_newPerson mo_newWidth post) (sz : Nat) : Met l yX6_look (Cond.code yX6_look cX6_look 10 (some .int) :: wAll) (rm_MO_look) (gPc G [.ref hMO] [cMO hMO mo_thrown mo_size hTM mo_isBoard mo_width mo_height mo_person mo_moves mo_pushes mo_floor mo_goals mo_boxes mo_newFloor mo_newGoals mo_newBoxes mo_newPerson mo_newWidth mo_kept hDO mo_many mo_taken mo_length hXB hXC hXF hXY hXS hXP hFA hLE, cI G hTM 160 aTM] sz) (gQi G (fun (r : Int32) (u : Int64 × Int64 × Int64 × Int32 × Int32) => post r u.1 u.2.1 u.2.2.1 u.2.2.2.1 u.2.2.2.2) (fun (u : Int64 × Int64 × Int64 × Int32 × Int32) => [cMO hMO mo_thrown mo_size hTM mo_isBoard mo_width mo_height mo_person mo_moves mo_pushes mo_floor mo_goals mo_boxes u.1 u.2.1 u.2.2.1 u.2.2.2.1 u.2.2.2.2 mo_kept hDO mo_many mo_taken mo_length hXB hXC hXF hXY hXS hXP hFA hLE, cI G hTM 160 aTM]) (va_A [cMO hMO mo_thrown mo_size hTM mo_isBoard mo_width mo_height mo_person mo_moves mo_pushes mo_floor mo_goals mo_boxes mo_newFloor mo_newGoals mo_newBoxes mo_newPerson mo_newWidth mo_kept hDO mo_many mo_taken mo_length hXB hXC hXF hXY hXS hXP hFA hLE, cI G hTM 160 aTM] sz)) 0 0 (va_A [cMO hMO mo_thrown mo_size hTM mo_isBoard mo_width mo_height mo_person mo_moves mo_pushes mo_floor mo_goals mo_boxes mo_newFloor mo_newGoals mo_newBoxes mo_newPerson mo_newWidth mo_kept hDO mo_many mo_taken mo_length hXB hXC hXF hXY hXS hXP hFA hLE, cI G hTM 160 aTM] sz) := by
  refine Met.ofW (cc := cX6_look) (maxL := 10) (ret := (some .int)) (by decide) rfl ?_
  intro p e s m args below meth c s₁ B hml hv
  obtain ⟨rfl, hsz, hP, hK, hD0⟩ := hv
  subst hsz
  have X := gX.ofB (ws := [cMO hMO mo_thrown mo_size hTM mo_isBoard mo_width mo_height mo_person mo_moves mo_pushes mo_floor mo_goals mo_boxes mo_newFloor mo_newGoals mo_newBoxes mo_newPerson mo_newWidth mo_kept hDO mo_many mo_taken mo_length hXB hXC hXF hXY hXS hXP hFA hLE, cI G hTM 160 aTM]) B hml hK hD0
  have hD := hD0.self (sz := s.heap.size)
  generalize hAe : va_A [cMO hMO mo_thrown mo_size hTM mo_isBoard mo_width mo_height mo_person mo_moves mo_pushes mo_floor mo_goals mo_boxes mo_newFloor mo_newGoals mo_newBoxes mo_newPerson mo_newWidth mo_kept hDO mo_many mo_taken mo_length hXB hXC hXF hXY hXS hXP hFA hLE, cI G hTM 160 aTM] s.heap.size = A at X hD ⊢
  have hS : va_S A s.heap s.heap [] := va_S.rf
  have hl := lv_entry ([.ref hMO]) (n := 10) (Nat.le_of_ble_eq_true rfl)
  rw [lg_entry_eq]
  generalize (lg_sl ([.ref hMO]) ++ List.replicate (10 - (lg_sl ([.ref hMO])).length) Slot.unset).toArray = ls at hl ⊢
  have hl : lv_has ls 10 [(0, .ref hMO)] := hl
  dsimp only [headSpec]
  unfold MO_look at h
  refine lv_aload_n X.1 X.2.1 dX6_look_0 rfl (lv_at hl 0 rfl) ?_
  refine lv_lconst (v := (0 : Int64)) X.1 X.2.1 dX6_look_1 (by decide) ?_
  refine g_put X hP hD hS 0 6 12 (v := .long (0 : Int64)) rfl rfl inX6 tyX6 tyX6_ok nmX6 (by decide) fl_X6_59 rfl rfl rfl rfl (Nat.le_of_ble_eq_true rfl) dX6_look_2 (fun H locs hP hD hS => ?_)
  replace hP : va_P G.1 gCl [cMO hMO mo_thrown mo_size hTM mo_isBoard mo_width mo_height mo_person mo_moves mo_pushes mo_floor mo_goals mo_boxes (0 : Int64) mo_newGoals mo_newBoxes mo_newPerson mo_newWidth mo_kept hDO mo_many mo_taken mo_length hXB hXC hXF hXY hXS hXP hFA hLE, cI G hTM 160 aTM] H := hP
  replace hD : va_D A [cMO hMO mo_thrown mo_size hTM mo_isBoard mo_width mo_height mo_person mo_moves mo_pushes mo_floor mo_goals mo_boxes (0 : Int64) mo_newGoals mo_newBoxes mo_newPerson mo_newWidth mo_kept hDO mo_many mo_taken mo_length hXB hXC hXF hXY hXS hXP hFA hLE, cI G hTM 160 aTM] := hD
  refine lv_aload_n X.1 X.2.1 dX6_look_5 rfl (lv_at hl 0 rfl) ?_
  refine lv_lconst (v := (0 : Int64)) X.1 X.2.1 dX6_look_6 (by decide) ?_
  refine g_put X hP hD hS 0 6 13 (v := .long (0 : Int64)) rfl rfl inX6 tyX6 tyX6_ok nmX6 (by decide) fl_X6_63 rfl rfl rfl rfl (Nat.le_of_ble_eq_true rfl) dX6_look_7 (fun H locs hP hD hS => ?_)
  replace hP : va_P G.1 gCl [cMO hMO mo_thrown mo_size hTM mo_isBoard mo_width mo_height mo_person mo_moves mo_pushes mo_floor mo_goals mo_boxes (0 : Int64) (0 : Int64) mo_newBoxes mo_newPerson mo_newWidth mo_kept hDO mo_many mo_taken mo_length hXB hXC hXF hXY hXS hXP hFA hLE, cI G hTM 160 aTM] H := hP
  replace hD : va_D A [cMO hMO mo_thrown mo_size hTM mo_isBoard mo_width mo_height mo_person mo_moves mo_pushes mo_floor mo_goals mo_boxes (0 : Int64) (0 : Int64) mo_newBoxes mo_newPerson mo_newWidth mo_kept hDO mo_many mo_taken mo_length hXB hXC hXF hXY hXS hXP hFA hLE, cI G hTM 160 aTM] := hD
  refine lv_aload_n X.1 X.2.1 dX6_look_10 rfl (lv_at hl 0 rfl) ?_
  refine lv_lconst (v := (0 : Int64)) X.1 X.2.1 dX6_look_11 (by decide) ?_
  refine g_put X hP hD hS 0 6 14 (v := .long (0 : Int64)) rfl rfl inX6 tyX6 tyX6_ok nmX6 (by decide) fl_X6_66 rfl rfl rfl rfl (Nat.le_of_ble_eq_true rfl) dX6_look_12 (fun H locs hP hD hS => ?_)
  replace hP : va_P G.1 gCl [cMO hMO mo_thrown mo_size hTM mo_isBoard mo_width mo_height mo_person mo_moves mo_pushes mo_floor mo_goals mo_boxes (0 : Int64) (0 : Int64) (0 : Int64) mo_newPerson mo_newWidth mo_kept hDO mo_many mo_taken mo_length hXB hXC hXF hXY hXS hXP hFA hLE, cI G hTM 160 aTM] H := hP
  replace hD : va_D A [cMO hMO mo_thrown mo_size hTM mo_isBoard mo_width mo_height mo_person mo_moves mo_pushes mo_floor mo_goals mo_boxes (0 : Int64) (0 : Int64) (0 : Int64) mo_newPerson mo_newWidth mo_kept hDO mo_many mo_taken mo_length hXB hXC hXF hXY hXS hXP hFA hLE, cI G hTM 160 aTM] := hD
  refine lv_aload_n X.1 X.2.1 dX6_look_15 rfl (lv_at hl 0 rfl) ?_
  refine lv_iconst (v := (-1 : Int32)) X.1 X.2.1 dX6_look_16 (by decide) ?_
  refine g_put X hP hD hS 0 6 15 (v := .int (-1 : Int32)) rfl rfl inX6 tyX6 tyX6_ok nmX6 (by decide) fl_X6_69 rfl rfl rfl rfl (Nat.le_of_ble_eq_true rfl) dX6_look_17 (fun H locs hP hD hS => ?_)
  replace hP : va_P G.1 gCl [cMO hMO mo_thrown mo_size hTM mo_isBoard mo_width mo_height mo_person mo_moves mo_pushes mo_floor mo_goals mo_boxes (0 : Int64) (0 : Int64) (0 : Int64) (-1 : Int32) mo_newWidth mo_kept hDO mo_many mo_taken mo_length hXB hXC hXF hXY hXS hXP hFA hLE, cI G hTM 160 aTM] H := hP
  replace hD : va_D A [cMO hMO mo_thrown mo_size hTM mo_isBoard mo_width mo_height mo_person mo_moves mo_pushes mo_floor mo_goals mo_boxes (0 : Int64) (0 : Int64) (0 : Int64) (-1 : Int32) mo_newWidth mo_kept hDO mo_many mo_taken mo_length hXB hXC hXF hXY hXS hXP hFA hLE, cI G hTM 160 aTM] := hD
  refine lv_aload_n X.1 X.2.1 dX6_look_20 rfl (lv_at hl 0 rfl) ?_
  refine lv_iconst (v := (0 : Int32)) X.1 X.2.1 dX6_look_21 (by decide) ?_
  refine g_put X hP hD hS 0 6 16 (v := .int (0 : Int32)) rfl rfl inX6 tyX6 tyX6_ok nmX6 (by decide) fl_X6_72 rfl rfl rfl rfl (Nat.le_of_ble_eq_true rfl) dX6_look_22 (fun H locs hP hD hS => ?_)
  replace hP : va_P G.1 gCl [cMO hMO mo_thrown mo_size hTM mo_isBoard mo_width mo_height mo_person mo_moves mo_pushes mo_floor mo_goals mo_boxes (0 : Int64) (0 : Int64) (0 : Int64) (-1 : Int32) (0 : Int32) mo_kept hDO mo_many mo_taken mo_length hXB hXC hXF hXY hXS hXP hFA hLE, cI G hTM 160 aTM] H := hP
  replace hD : va_D A [cMO hMO mo_thrown mo_size hTM mo_isBoard mo_width mo_height mo_person mo_moves mo_pushes mo_floor mo_goals mo_boxes (0 : Int64) (0 : Int64) (0 : Int64) (-1 : Int32) (0 : Int32) mo_kept hDO mo_many mo_taken mo_length hXB hXC hXF hXY hXS hXP hFA hLE, cI G hTM 160 aTM] := hD
  refine lv_iconst (v := (0 : Int32)) X.1 X.2.1 dX6_look_25 (by decide) ?_
  refine lv_istore_n (lv' := [(1, .int (0 : Int32)), (0, .ref hMO)]) X.1 X.2.1 dX6_look_26 rfl hl (by decide) rfl (fun ls hl => ?_)
  refine lv_iconst (v := (0 : Int32)) X.1 X.2.1 dX6_look_27 (by decide) ?_
  refine lv_istore_n (lv' := [(2, .int (0 : Int32)), (1, .int (0 : Int32)), (0, .ref hMO)]) X.1 X.2.1 dX6_look_28 rfl hl (by decide) rfl (fun ls hl => ?_)
  refine lv_iconst (v := (0 : Int32)) X.1 X.2.1 dX6_look_29 (by decide) ?_
  refine lv_istore_n (lv' := [(3, .int (0 : Int32)), (2, .int (0 : Int32)), (1, .int (0 : Int32)), (0, .ref hMO)]) X.1 X.2.1 dX6_look_30 rfl hl (by decide) rfl (fun ls hl => ?_)
  obtain ⟨n', h⟩ := h
  exact s_MO_look_31 X  n' (0 : Int64) (0 : Int64) (0 : Int64) (-1 : Int32) (0 : Int32) (0 : Int32) (0 : Int32) (0 : Int32) _ _ _ h hP hD hS (lv_sub hl [3, 2, 1, 0] rfl)
abbrev rm_MO_read : Room := { frames := 2, cells := 0, slots := 0, locals := 52 }
set_option maxHeartbeats 4000000 in
set_option maxRecDepth 100000 in
theorem s_MO_read_152 {p : Program} {l : Launch} {e : Env} {s : State} {m : MethodId} {args : Array Value} {below : List Frame} {meth : Method} {c : Code} {G : gEnv} {A : Nat → Prop} {hMO : Nat} {hTM : Nat} {hDO : Nat} {hXB : Nat} {hXC : Nat} {hXF : Nat} {hXY : Nat} {hXS : Nat} {hXP : Nat} {hFA : Nat} {hLE : Nat} {mo_many : Int32} {mo_taken : Int32} {mo_length : Int32} {aTM : Nat → Int32} {k141 : Int32 → Int32 → Int32 → Int32 → Int32 → Int32 → Int32 → Int32 → Int64 → Int64 → Int64 → Int64 → Int64 → Int64 → Int32 → Int32 → Int32 → Int32 → Prop} {post : Int32 → Int32 → Int32 → Int32 → Int32 → Int32 → Int32 → Int32 → Int32 → Int64 → Int64 → Int64 → Int64 → Int64 → Int64 → Int32 → Int32 → Int32 → Prop} (X : gX p m meth c cX6_read 5 RX6 (some .int) s args G A) (hk141 : ∀ (mo_thrown' : Int32) (mo_size' : Int32) (mo_isBoard' : Int32) (mo_width' : Int32) (mo_height' : Int32) (mo_person' : Int32) (mo_moves' : Int32) (mo_pushes' : Int32) (mo_floor' : Int64) (mo_goals' : Int64) (mo_boxes' : Int64) (mo_newFloor' : Int64) (mo_newGoals' : Int64) (mo_newBoxes' : Int64) (mo_newPerson' : Int32) (mo_newWidth' : Int32) (mo_kept' : Int32) (v3' : Int32) (H : Heap) (locs : List Loc) (ls : Array Slot), k141 mo_thrown' mo_size' mo_isBoard' mo_width' mo_height' mo_person' mo_moves' mo_pushes' mo_floor' mo_goals' mo_boxes' mo_newFloor' mo_newGoals' mo_newBoxes' mo_newPerson' mo_newWidth' mo_kept' v3' → va_P G.1 gCl [cMO hMO mo_thrown' mo_size' hTM mo_isBoard' mo_width' mo_height' mo_person' mo_moves' mo_pushes' mo_floor' mo_goals' mo_boxes' mo_newFloor' mo_newGoals' mo_newBoxes' mo_newPerson' mo_newWidth' mo_kept' hDO mo_many mo_taken mo_length hXB hXC hXF hXY hXS hXP hFA hLE, cI G hTM 160 aTM] H → va_D A [cMO hMO mo_thrown' mo_size' hTM mo_isBoard' mo_width' mo_height' mo_person' mo_moves' mo_pushes' mo_floor' mo_goals' mo_boxes' mo_newFloor' mo_newGoals' mo_newBoxes' mo_newPerson' mo_newWidth' mo_kept' hDO mo_many mo_taken mo_length hXB hXC hXF hXY hXS hXP hFA hLE, cI G hTM 160 aTM] → va_S A s.heap H locs → lv_has ls 5 [(0, .ref hMO), (3, .int v3')] → W p l e rm_MO_read s m args below meth c H locs 0 0 (MQ below (gQi G (fun (r : Int32) (u : Int32 × Int32 × Int32 × Int32 × Int32 × Int32 × Int32 × Int32 × Int64 × Int64 × Int64 × Int64 × Int64 × Int64 × Int32 × Int32 × Int32) => post r u.1 u.2.1 u.2.2.1 u.2.2.2.1 u.2.2.2.2.1 u.2.2.2.2.2.1 u.2.2.2.2.2.2.1 u.2.2.2.2.2.2.2.1 u.2.2.2.2.2.2.2.2.1 u.2.2.2.2.2.2.2.2.2.1 u.2.2.2.2.2.2.2.2.2.2.1 u.2.2.2.2.2.2.2.2.2.2.2.1 u.2.2.2.2.2.2.2.2.2.2.2.2.1 u.2.2.2.2.2.2.2.2.2.2.2.2.2.1 u.2.2.2.2.2.2.2.2.2.2.2.2.2.2.1 u.2.2.2.2.2.2.2.2.2.2.2.2.2.2.2.1 u.2.2.2.2.2.2.2.2.2.2.2.2.2.2.2.2) (fun (u : Int32 × Int32 × Int32 × Int32 × Int32 × Int32 × Int32 × Int32 × Int64 × Int64 × Int64 × Int64 × Int64 × Int64 × Int32 × Int32 × Int32) => [cMO hMO u.1 u.2.1 hTM u.2.2.1 u.2.2.2.1 u.2.2.2.2.1 u.2.2.2.2.2.1 u.2.2.2.2.2.2.1 u.2.2.2.2.2.2.2.1 u.2.2.2.2.2.2.2.2.1 u.2.2.2.2.2.2.2.2.2.1 u.2.2.2.2.2.2.2.2.2.2.1 u.2.2.2.2.2.2.2.2.2.2.2.1 u.2.2.2.2.2.2.2.2.2.2.2.2.1 u.2.2.2.2.2.2.2.2.2.2.2.2.2.1 u.2.2.2.2.2.2.2.2.2.2.2.2.2.2.1 u.2.2.2.2.2.2.2.2.2.2.2.2.2.2.2.1 u.2.2.2.2.2.2.2.2.2.2.2.2.2.2.2.2 hDO mo_many mo_taken mo_length hXB hXC hXF hXY hXS hXP hFA hLE, cI G hTM 160 aTM]) A) args s 0 0 A) (F0 m 141 ls [])) : ∀ (n : Nat) (mo_thrown : Int32) (mo_size : Int32) (mo_isBoard : Int32) (mo_width : Int32) (mo_height : Int32) (mo_person : Int32) (mo_moves : Int32) (mo_pushes : Int32) (mo_floor : Int64) (mo_goals : Int64) (mo_boxes : Int64) (mo_newFloor : Int64) (mo_newGoals : Int64) (mo_newBoxes : Int64) (mo_newPerson : Int32) (mo_newWidth : Int32) (mo_kept : Int32) (v3 : Int32) (v4 : Int32) (H : Heap) (locs : List Loc) (ls : Array Slot), MO_read_152 aTM k141 post n mo_thrown mo_size mo_isBoard mo_width mo_height mo_person mo_moves mo_pushes mo_floor mo_goals mo_boxes mo_newFloor mo_newGoals mo_newBoxes mo_newPerson mo_newWidth mo_kept v3 v4 → va_P G.1 gCl [cMO hMO mo_thrown mo_size hTM mo_isBoard mo_width mo_height mo_person mo_moves mo_pushes mo_floor mo_goals mo_boxes mo_newFloor mo_newGoals mo_newBoxes mo_newPerson mo_newWidth mo_kept hDO mo_many mo_taken mo_length hXB hXC hXF hXY hXS hXP hFA hLE, cI G hTM 160 aTM] H → va_D A [cMO hMO mo_thrown mo_size hTM mo_isBoard mo_width mo_height mo_person mo_moves mo_pushes mo_floor mo_goals mo_boxes mo_newFloor mo_newGoals mo_newBoxes mo_newPerson mo_newWidth mo_kept hDO mo_many mo_taken mo_length hXB hXC hXF hXY hXS hXP hFA hLE, cI G hTM 160 aTM] → va_S A s.heap H locs → lv_has ls 5 [(0, .ref hMO), (3, .int v3), (4, .int v4)] → W p l e rm_MO_read s m args below meth c H locs 0 0 (MQ below (gQi G (fun (r : Int32) (u : Int32 × Int32 × Int32 × Int32 × Int32 × Int32 × Int32 × Int32 × Int64 × Int64 × Int64 × Int64 × Int64 × Int64 × Int32 × Int32 × Int32) => post r u.1 u.2.1 u.2.2.1 u.2.2.2.1 u.2.2.2.2.1 u.2.2.2.2.2.1 u.2.2.2.2.2.2.1 u.2.2.2.2.2.2.2.1 u.2.2.2.2.2.2.2.2.1 u.2.2.2.2.2.2.2.2.2.1 u.2.2.2.2.2.2.2.2.2.2.1 u.2.2.2.2.2.2.2.2.2.2.2.1 u.2.2.2.2.2.2.2.2.2.2.2.2.1 u.2.2.2.2.2.2.2.2.2.2.2.2.2.1 u.2.2.2.2.2.2.2.2.2.2.2.2.2.2.1 u.2.2.2.2.2.2.2.2.2.2.2.2.2.2.2.1 u.2.2.2.2.2.2.2.2.2.2.2.2.2.2.2.2) (fun (u : Int32 × Int32 × Int32 × Int32 × Int32 × Int32 × Int32 × Int32 × Int64 × Int64 × Int64 × Int64 × Int64 × Int64 × Int32 × Int32 × Int32) => [cMO hMO u.1 u.2.1 hTM u.2.2.1 u.2.2.2.1 u.2.2.2.2.1 u.2.2.2.2.2.1 u.2.2.2.2.2.2.1 u.2.2.2.2.2.2.2.1 u.2.2.2.2.2.2.2.2.1 u.2.2.2.2.2.2.2.2.2.1 u.2.2.2.2.2.2.2.2.2.2.1 u.2.2.2.2.2.2.2.2.2.2.2.1 u.2.2.2.2.2.2.2.2.2.2.2.2.1 u.2.2.2.2.2.2.2.2.2.2.2.2.2.1 u.2.2.2.2.2.2.2.2.2.2.2.2.2.2.1 u.2.2.2.2.2.2.2.2.2.2.2.2.2.2.2.1 u.2.2.2.2.2.2.2.2.2.2.2.2.2.2.2.2 hDO mo_many mo_taken mo_length hXB hXC hXF hXY hXS hXP hFA hLE, cI G hTM 160 aTM]) A) args s 0 0 A) (F0 m 152 ls []) := by
  intro n
  induction n with
  | zero => intro mo_thrown mo_size mo_isBoard mo_width mo_height mo_person mo_moves mo_pushes mo_floor mo_goals mo_boxes mo_newFloor mo_newGoals mo_newBoxes mo_newPerson mo_newWidth mo_kept v3 v4 H locs ls h _ _ _ _; exact h.elim
  | succ n ih =>
    intro mo_thrown mo_size mo_isBoard mo_width mo_height mo_person mo_moves mo_pushes mo_floor mo_goals mo_boxes mo_newFloor mo_newGoals mo_newBoxes mo_newPerson mo_newWidth mo_kept v3 v4 H locs ls h hP hD hS hl
    unfold MO_read_152 at h
    refine lv_iload X.1 X.2.1 dX6_read_152 (lv_at hl 2 rfl) ?_
    refine lv_aload_n X.1 X.2.1 dX6_read_154 rfl (lv_at hl 0 rfl) ?_
    refine g_get X hP 0 6 4 (v := .int mo_width) rfl rfl inX6 (by decide) fl_X6_46 rfl dX6_read_155 ?_
    refine lv_icmp_ge (tgt := 202) X.1 X.2.1 dX6_read_158 (by decide) (fun hc => ?_) (fun hc => ?_)
    · replace h := Eq.mp (if_pos hc) h
      refine lv_iinc (v := (v3 + (1 : Int32))) (lv' := [(3, .int (v3 + (1 : Int32))), (0, .ref hMO), (4, .int v4)]) X.1 X.2.1 dX6_read_202 hl (k := 1) rfl rfl (by decide) rfl (fun ls hl => ?_)
      refine lv_goto (tgt := 141) X.1 X.2.1 dX6_read_205 (by decide) ?_
      exact hk141 mo_thrown mo_size mo_isBoard mo_width mo_height mo_person mo_moves mo_pushes mo_floor mo_goals mo_boxes mo_newFloor mo_newGoals mo_newBoxes mo_newPerson mo_newWidth mo_kept (v3 + (1 : Int32)) _ _ _ h hP hD hS (lv_sub hl [1, 0] rfl)
    · replace h := Eq.mp (if_neg hc) h
      refine lv_aload_n X.1 X.2.1 dX6_read_161 rfl (lv_at hl 0 rfl) ?_
      refine g_get X hP 0 6 12 (v := .long mo_newFloor) rfl rfl inX6 (by decide) fl_X6_59 rfl dX6_read_162 ?_
      refine lv_bipush (v := (8 : Int32)) X.1 X.2.1 dX6_read_165 (by decide) ?_
      refine lv_iload_n X.1 X.2.1 dX6_read_167 rfl (lv_at hl 1 rfl) ?_
      refine lv_imul X.1 X.2.1 dX6_read_168 ?_
      refine lv_iload X.1 X.2.1 dX6_read_169 (lv_at hl 2 rfl) ?_
      refine lv_iadd X.1 X.2.1 dX6_read_171 ?_
      refine g_ci (wr := [cMO hMO mo_thrown mo_size hTM mo_isBoard mo_width mo_height mo_person mo_moves mo_pushes mo_floor mo_goals mo_boxes mo_newFloor mo_newGoals mo_newBoxes mo_newPerson mo_newWidth mo_kept hDO mo_many mo_taken mo_length hXB hXC hXF hXY hXS hXP hFA hLE, cI G hTM 160 aTM]) X [] [0, 1] (g_rS (As := [.long mo_newFloor, .int (((8 : Int32) * v3) + v4)]) (rest := []) X (c_MO_has l G mo_newFloor (((8 : Int32) * v3) + v4) _ h _) lk_X6_90 rfl rfl ⟨Nat.le_of_ble_eq_true rfl, Nat.le_of_ble_eq_true rfl⟩ hP hD hS [] rfl rfl rfl hl.1 rfl (Nat.le_of_ble_eq_true rfl) dX6_read_172 ⟨Nat.le_of_ble_eq_true rfl, Nat.le_of_ble_eq_true rfl⟩) hP hD hS rfl rfl rfl (by decide) (fun r_1 u H locs h hP hD hS => ?_)
      try dsimp only at h
      replace hP := hP.sub (ws' := [cMO hMO mo_thrown mo_size hTM mo_isBoard mo_width mo_height mo_person mo_moves mo_pushes mo_floor mo_goals mo_boxes mo_newFloor mo_newGoals mo_newBoxes mo_newPerson mo_newWidth mo_kept hDO mo_many mo_taken mo_length hXB hXC hXF hXY hXS hXP hFA hLE, cI G hTM 160 aTM]) [0, 1] rfl
      replace hD := hD.sub (ws' := [cMO hMO mo_thrown mo_size hTM mo_isBoard mo_width mo_height mo_person mo_moves mo_pushes mo_floor mo_goals mo_boxes mo_newFloor mo_newGoals mo_newBoxes mo_newPerson mo_newWidth mo_kept hDO mo_many mo_taken mo_length hXB hXC hXF hXY hXS hXP hFA hLE, cI G hTM 160 aTM]) [0, 1] rfl rfl
      refine lv_if_ne (tgt := 196) X.1 X.2.1 dX6_read_175 (by decide) (fun hc => ?_) (fun hc => ?_)
      · replace h := Eq.mp (if_neg hc) h
        refine lv_iinc (v := (v4 + (1 : Int32))) (lv' := [(4, .int (v4 + (1 : Int32))), (0, .ref hMO), (3, .int v3)]) X.1 X.2.1 dX6_read_196 hl (k := 2) rfl rfl (by decide) rfl (fun ls hl => ?_)
        refine lv_goto (tgt := 152) X.1 X.2.1 dX6_read_199 (by decide) ?_
        exact ih mo_thrown mo_size mo_isBoard mo_width mo_height mo_person mo_moves mo_pushes mo_floor mo_goals mo_boxes mo_newFloor mo_newGoals mo_newBoxes mo_newPerson mo_newWidth mo_kept v3 (v4 + (1 : Int32)) _ _ _ h hP hD hS (lv_sub hl [1, 2, 0] rfl)
      · replace h := Eq.mp (if_pos hc) h
        refine lv_aload_n X.1 X.2.1 dX6_read_178 rfl (lv_at hl 0 rfl) ?_
        refine lv_aload_n X.1 X.2.1 dX6_read_179 rfl (lv_at hl 0 rfl) ?_
        refine g_get X hP 0 6 9 (v := .long mo_floor) rfl rfl inX6 (by decide) fl_X6_87 rfl dX6_read_180 ?_
        refine lv_lconst (v := (1 : Int64)) X.1 X.2.1 dX6_read_183 (by decide) ?_
        refine lv_bipush (v := (8 : Int32)) X.1 X.2.1 dX6_read_184 (by decide) ?_
        refine lv_iload_n X.1 X.2.1 dX6_read_186 rfl (lv_at hl 1 rfl) ?_
        refine lv_imul X.1 X.2.1 dX6_read_187 ?_
        refine lv_iload X.1 X.2.1 dX6_read_188 (lv_at hl 2 rfl) ?_
        refine lv_iadd X.1 X.2.1 dX6_read_190 ?_
        refine lv_lshl X.1 X.2.1 dX6_read_191 rfl ?_
        refine lv_lor X.1 X.2.1 dX6_read_192 ?_
        refine lv_topl (fun mo_floor_2 e_mo_floor_2 => ?_)
        replace h := h mo_floor_2 e_mo_floor_2
        refine g_put X hP hD hS 0 6 9 (v := .long mo_floor_2) rfl rfl inX6 tyX6 tyX6_ok nmX6 (by decide) fl_X6_87 rfl rfl rfl rfl (Nat.le_of_ble_eq_true rfl) dX6_read_193 (fun H locs hP hD hS => ?_)
        replace hP : va_P G.1 gCl [cMO hMO mo_thrown mo_size hTM mo_isBoard mo_width mo_height mo_person mo_moves mo_pushes mo_floor_2 mo_goals mo_boxes mo_newFloor mo_newGoals mo_newBoxes mo_newPerson mo_newWidth mo_kept hDO mo_many mo_taken mo_length hXB hXC hXF hXY hXS hXP hFA hLE, cI G hTM 160 aTM] H := hP
        replace hD : va_D A [cMO hMO mo_thrown mo_size hTM mo_isBoard mo_width mo_height mo_person mo_moves mo_pushes mo_floor_2 mo_goals mo_boxes mo_newFloor mo_newGoals mo_newBoxes mo_newPerson mo_newWidth mo_kept hDO mo_many mo_taken mo_length hXB hXC hXF hXY hXS hXP hFA hLE, cI G hTM 160 aTM] := hD
        refine lv_iinc (v := (v4 + (1 : Int32))) (lv' := [(4, .int (v4 + (1 : Int32))), (0, .ref hMO), (3, .int v3)]) X.1 X.2.1 dX6_read_196 hl (k := 2) rfl rfl (by decide) rfl (fun ls hl => ?_)
        refine lv_goto (tgt := 152) X.1 X.2.1 dX6_read_199 (by decide) ?_
        exact ih mo_thrown mo_size mo_isBoard mo_width mo_height mo_person mo_moves mo_pushes mo_floor_2 mo_goals mo_boxes mo_newFloor mo_newGoals mo_newBoxes mo_newPerson mo_newWidth mo_kept v3 (v4 + (1 : Int32)) _ _ _ h hP hD hS (lv_sub hl [1, 2, 0] rfl)
set_option maxHeartbeats 4000000 in
set_option maxRecDepth 100000 in
theorem s_MO_read_141 {p : Program} {l : Launch} {e : Env} {s : State} {m : MethodId} {args : Array Value} {below : List Frame} {meth : Method} {c : Code} {G : gEnv} {A : Nat → Prop} {hMO : Nat} {hTM : Nat} {hDO : Nat} {hXB : Nat} {hXC : Nat} {hXF : Nat} {hXY : Nat} {hXS : Nat} {hXP : Nat} {hFA : Nat} {hLE : Nat} {mo_many : Int32} {mo_taken : Int32} {mo_length : Int32} {aTM : Nat → Int32} {post : Int32 → Int32 → Int32 → Int32 → Int32 → Int32 → Int32 → Int32 → Int32 → Int64 → Int64 → Int64 → Int64 → Int64 → Int64 → Int32 → Int32 → Int32 → Prop} (X : gX p m meth c cX6_read 5 RX6 (some .int) s args G A)  : ∀ (n : Nat) (mo_thrown : Int32) (mo_size : Int32) (mo_isBoard : Int32) (mo_width : Int32) (mo_height : Int32) (mo_person : Int32) (mo_moves : Int32) (mo_pushes : Int32) (mo_floor : Int64) (mo_goals : Int64) (mo_boxes : Int64) (mo_newFloor : Int64) (mo_newGoals : Int64) (mo_newBoxes : Int64) (mo_newPerson : Int32) (mo_newWidth : Int32) (mo_kept : Int32) (v3 : Int32) (H : Heap) (locs : List Loc) (ls : Array Slot), MO_read_141 aTM post n mo_thrown mo_size mo_isBoard mo_width mo_height mo_person mo_moves mo_pushes mo_floor mo_goals mo_boxes mo_newFloor mo_newGoals mo_newBoxes mo_newPerson mo_newWidth mo_kept v3 → va_P G.1 gCl [cMO hMO mo_thrown mo_size hTM mo_isBoard mo_width mo_height mo_person mo_moves mo_pushes mo_floor mo_goals mo_boxes mo_newFloor mo_newGoals mo_newBoxes mo_newPerson mo_newWidth mo_kept hDO mo_many mo_taken mo_length hXB hXC hXF hXY hXS hXP hFA hLE, cI G hTM 160 aTM] H → va_D A [cMO hMO mo_thrown mo_size hTM mo_isBoard mo_width mo_height mo_person mo_moves mo_pushes mo_floor mo_goals mo_boxes mo_newFloor mo_newGoals mo_newBoxes mo_newPerson mo_newWidth mo_kept hDO mo_many mo_taken mo_length hXB hXC hXF hXY hXS hXP hFA hLE, cI G hTM 160 aTM] → va_S A s.heap H locs → lv_has ls 5 [(0, .ref hMO), (3, .int v3)] → W p l e rm_MO_read s m args below meth c H locs 0 0 (MQ below (gQi G (fun (r : Int32) (u : Int32 × Int32 × Int32 × Int32 × Int32 × Int32 × Int32 × Int32 × Int64 × Int64 × Int64 × Int64 × Int64 × Int64 × Int32 × Int32 × Int32) => post r u.1 u.2.1 u.2.2.1 u.2.2.2.1 u.2.2.2.2.1 u.2.2.2.2.2.1 u.2.2.2.2.2.2.1 u.2.2.2.2.2.2.2.1 u.2.2.2.2.2.2.2.2.1 u.2.2.2.2.2.2.2.2.2.1 u.2.2.2.2.2.2.2.2.2.2.1 u.2.2.2.2.2.2.2.2.2.2.2.1 u.2.2.2.2.2.2.2.2.2.2.2.2.1 u.2.2.2.2.2.2.2.2.2.2.2.2.2.1 u.2.2.2.2.2.2.2.2.2.2.2.2.2.2.1 u.2.2.2.2.2.2.2.2.2.2.2.2.2.2.2.1 u.2.2.2.2.2.2.2.2.2.2.2.2.2.2.2.2) (fun (u : Int32 × Int32 × Int32 × Int32 × Int32 × Int32 × Int32 × Int32 × Int64 × Int64 × Int64 × Int64 × Int64 × Int64 × Int32 × Int32 × Int32) => [cMO hMO u.1 u.2.1 hTM u.2.2.1 u.2.2.2.1 u.2.2.2.2.1 u.2.2.2.2.2.1 u.2.2.2.2.2.2.1 u.2.2.2.2.2.2.2.1 u.2.2.2.2.2.2.2.2.1 u.2.2.2.2.2.2.2.2.2.1 u.2.2.2.2.2.2.2.2.2.2.1 u.2.2.2.2.2.2.2.2.2.2.2.1 u.2.2.2.2.2.2.2.2.2.2.2.2.1 u.2.2.2.2.2.2.2.2.2.2.2.2.2.1 u.2.2.2.2.2.2.2.2.2.2.2.2.2.2.1 u.2.2.2.2.2.2.2.2.2.2.2.2.2.2.2.1 u.2.2.2.2.2.2.2.2.2.2.2.2.2.2.2.2 hDO mo_many mo_taken mo_length hXB hXC hXF hXY hXS hXP hFA hLE, cI G hTM 160 aTM]) A) args s 0 0 A) (F0 m 141 ls []) := by
  intro n
  induction n with
  | zero => intro mo_thrown mo_size mo_isBoard mo_width mo_height mo_person mo_moves mo_pushes mo_floor mo_goals mo_boxes mo_newFloor mo_newGoals mo_newBoxes mo_newPerson mo_newWidth mo_kept v3 H locs ls h _ _ _ _; exact h.elim
  | succ n ih =>
    intro mo_thrown mo_size mo_isBoard mo_width mo_height mo_person mo_moves mo_pushes mo_floor mo_goals mo_boxes mo_newFloor mo_newGoals mo_newBoxes mo_newPerson mo_newWidth mo_kept v3 H locs ls h hP hD hS hl
    unfold MO_read_141 at h
    refine lv_iload_n X.1 X.2.1 dX6_read_141 rfl (lv_at hl 1 rfl) ?_
    refine lv_aload_n X.1 X.2.1 dX6_read_142 rfl (lv_at hl 0 rfl) ?_
    refine g_get X hP 0 6 5 (v := .int mo_height) rfl rfl inX6 (by decide) fl_X6_49 rfl dX6_read_143 ?_
    refine lv_icmp_ge (tgt := 208) X.1 X.2.1 dX6_read_146 (by decide) (fun hc => ?_) (fun hc => ?_)
    · replace h := Eq.mp (if_pos hc) h
      refine lv_aload_n X.1 X.2.1 dX6_read_208 rfl (lv_at hl 0 rfl) ?_
      refine lv_aload_n X.1 X.2.1 dX6_read_209 rfl (lv_at hl 0 rfl) ?_
      refine g_get X hP 0 6 13 (v := .long mo_newGoals) rfl rfl inX6 (by decide) fl_X6_63 rfl dX6_read_210 ?_
      refine g_put X hP hD hS 0 6 10 (v := .long mo_newGoals) rfl rfl inX6 tyX6 tyX6_ok nmX6 (by decide) fl_X6_94 rfl rfl rfl rfl (Nat.le_of_ble_eq_true rfl) dX6_read_213 (fun H locs hP hD hS => ?_)
      replace hP : va_P G.1 gCl [cMO hMO mo_thrown mo_size hTM mo_isBoard mo_width mo_height mo_person mo_moves mo_pushes mo_floor mo_newGoals mo_boxes mo_newFloor mo_newGoals mo_newBoxes mo_newPerson mo_newWidth mo_kept hDO mo_many mo_taken mo_length hXB hXC hXF hXY hXS hXP hFA hLE, cI G hTM 160 aTM] H := hP
      replace hD : va_D A [cMO hMO mo_thrown mo_size hTM mo_isBoard mo_width mo_height mo_person mo_moves mo_pushes mo_floor mo_newGoals mo_boxes mo_newFloor mo_newGoals mo_newBoxes mo_newPerson mo_newWidth mo_kept hDO mo_many mo_taken mo_length hXB hXC hXF hXY hXS hXP hFA hLE, cI G hTM 160 aTM] := hD
      refine lv_aload_n X.1 X.2.1 dX6_read_216 rfl (lv_at hl 0 rfl) ?_
      refine lv_aload_n X.1 X.2.1 dX6_read_217 rfl (lv_at hl 0 rfl) ?_
      refine g_get X hP 0 6 14 (v := .long mo_newBoxes) rfl rfl inX6 (by decide) fl_X6_66 rfl dX6_read_218 ?_
      refine g_put X hP hD hS 0 6 11 (v := .long mo_newBoxes) rfl rfl inX6 tyX6 tyX6_ok nmX6 (by decide) fl_X6_97 rfl rfl rfl rfl (Nat.le_of_ble_eq_true rfl) dX6_read_221 (fun H locs hP hD hS => ?_)
      replace hP : va_P G.1 gCl [cMO hMO mo_thrown mo_size hTM mo_isBoard mo_width mo_height mo_person mo_moves mo_pushes mo_floor mo_newGoals mo_newBoxes mo_newFloor mo_newGoals mo_newBoxes mo_newPerson mo_newWidth mo_kept hDO mo_many mo_taken mo_length hXB hXC hXF hXY hXS hXP hFA hLE, cI G hTM 160 aTM] H := hP
      replace hD : va_D A [cMO hMO mo_thrown mo_size hTM mo_isBoard mo_width mo_height mo_person mo_moves mo_pushes mo_floor mo_newGoals mo_newBoxes mo_newFloor mo_newGoals mo_newBoxes mo_newPerson mo_newWidth mo_kept hDO mo_many mo_taken mo_length hXB hXC hXF hXY hXS hXP hFA hLE, cI G hTM 160 aTM] := hD
      refine lv_aload_n X.1 X.2.1 dX6_read_224 rfl (lv_at hl 0 rfl) ?_
      refine lv_aload_n X.1 X.2.1 dX6_read_225 rfl (lv_at hl 0 rfl) ?_
      refine g_get X hP 0 6 15 (v := .int mo_newPerson) rfl rfl inX6 (by decide) fl_X6_69 rfl dX6_read_226 ?_
      refine g_put X hP hD hS 0 6 6 (v := .int mo_newPerson) rfl rfl inX6 tyX6 tyX6_ok nmX6 (by decide) fl_X6_100 rfl rfl rfl rfl (Nat.le_of_ble_eq_true rfl) dX6_read_229 (fun H locs hP hD hS => ?_)
      replace hP : va_P G.1 gCl [cMO hMO mo_thrown mo_size hTM mo_isBoard mo_width mo_height mo_newPerson mo_moves mo_pushes mo_floor mo_newGoals mo_newBoxes mo_newFloor mo_newGoals mo_newBoxes mo_newPerson mo_newWidth mo_kept hDO mo_many mo_taken mo_length hXB hXC hXF hXY hXS hXP hFA hLE, cI G hTM 160 aTM] H := hP
      replace hD : va_D A [cMO hMO mo_thrown mo_size hTM mo_isBoard mo_width mo_height mo_newPerson mo_moves mo_pushes mo_floor mo_newGoals mo_newBoxes mo_newFloor mo_newGoals mo_newBoxes mo_newPerson mo_newWidth mo_kept hDO mo_many mo_taken mo_length hXB hXC hXF hXY hXS hXP hFA hLE, cI G hTM 160 aTM] := hD
      refine lv_aload_n X.1 X.2.1 dX6_read_232 rfl (lv_at hl 0 rfl) ?_
      refine lv_iconst (v := (0 : Int32)) X.1 X.2.1 dX6_read_233 (by decide) ?_
      refine g_put X hP hD hS 0 6 7 (v := .int (0 : Int32)) rfl rfl inX6 tyX6 tyX6_ok nmX6 (by decide) fl_X6_103 rfl rfl rfl rfl (Nat.le_of_ble_eq_true rfl) dX6_read_234 (fun H locs hP hD hS => ?_)
      replace hP : va_P G.1 gCl [cMO hMO mo_thrown mo_size hTM mo_isBoard mo_width mo_height mo_newPerson (0 : Int32) mo_pushes mo_floor mo_newGoals mo_newBoxes mo_newFloor mo_newGoals mo_newBoxes mo_newPerson mo_newWidth mo_kept hDO mo_many mo_taken mo_length hXB hXC hXF hXY hXS hXP hFA hLE, cI G hTM 160 aTM] H := hP
      replace hD : va_D A [cMO hMO mo_thrown mo_size hTM mo_isBoard mo_width mo_height mo_newPerson (0 : Int32) mo_pushes mo_floor mo_newGoals mo_newBoxes mo_newFloor mo_newGoals mo_newBoxes mo_newPerson mo_newWidth mo_kept hDO mo_many mo_taken mo_length hXB hXC hXF hXY hXS hXP hFA hLE, cI G hTM 160 aTM] := hD
      refine lv_aload_n X.1 X.2.1 dX6_read_237 rfl (lv_at hl 0 rfl) ?_
      refine lv_iconst (v := (0 : Int32)) X.1 X.2.1 dX6_read_238 (by decide) ?_
      refine g_put X hP hD hS 0 6 8 (v := .int (0 : Int32)) rfl rfl inX6 tyX6 tyX6_ok nmX6 (by decide) fl_X6_106 rfl rfl rfl rfl (Nat.le_of_ble_eq_true rfl) dX6_read_239 (fun H locs hP hD hS => ?_)
      replace hP : va_P G.1 gCl [cMO hMO mo_thrown mo_size hTM mo_isBoard mo_width mo_height mo_newPerson (0 : Int32) (0 : Int32) mo_floor mo_newGoals mo_newBoxes mo_newFloor mo_newGoals mo_newBoxes mo_newPerson mo_newWidth mo_kept hDO mo_many mo_taken mo_length hXB hXC hXF hXY hXS hXP hFA hLE, cI G hTM 160 aTM] H := hP
      replace hD : va_D A [cMO hMO mo_thrown mo_size hTM mo_isBoard mo_width mo_height mo_newPerson (0 : Int32) (0 : Int32) mo_floor mo_newGoals mo_newBoxes mo_newFloor mo_newGoals mo_newBoxes mo_newPerson mo_newWidth mo_kept hDO mo_many mo_taken mo_length hXB hXC hXF hXY hXS hXP hFA hLE, cI G hTM 160 aTM] := hD
      refine lv_aload_n X.1 X.2.1 dX6_read_242 rfl (lv_at hl 0 rfl) ?_
      refine lv_iconst (v := (0 : Int32)) X.1 X.2.1 dX6_read_243 (by decide) ?_
      refine g_put X hP hD hS 0 6 17 (v := .int (0 : Int32)) rfl rfl inX6 tyX6 tyX6_ok nmX6 (by decide) fl_X6_109 rfl rfl rfl rfl (Nat.le_of_ble_eq_true rfl) dX6_read_244 (fun H locs hP hD hS => ?_)
      replace hP : va_P G.1 gCl [cMO hMO mo_thrown mo_size hTM mo_isBoard mo_width mo_height mo_newPerson (0 : Int32) (0 : Int32) mo_floor mo_newGoals mo_newBoxes mo_newFloor mo_newGoals mo_newBoxes mo_newPerson mo_newWidth (0 : Int32) hDO mo_many mo_taken mo_length hXB hXC hXF hXY hXS hXP hFA hLE, cI G hTM 160 aTM] H := hP
      replace hD : va_D A [cMO hMO mo_thrown mo_size hTM mo_isBoard mo_width mo_height mo_newPerson (0 : Int32) (0 : Int32) mo_floor mo_newGoals mo_newBoxes mo_newFloor mo_newGoals mo_newBoxes mo_newPerson mo_newWidth (0 : Int32) hDO mo_many mo_taken mo_length hXB hXC hXF hXY hXS hXP hFA hLE, cI G hTM 160 aTM] := hD
      refine lv_aload_n X.1 X.2.1 dX6_read_247 rfl (lv_at hl 0 rfl) ?_
      refine g_get X hP 0 6 11 (v := .long mo_newBoxes) rfl rfl inX6 (by decide) fl_X6_97 rfl dX6_read_248 ?_
      refine g_ci (wr := [cMO hMO mo_thrown mo_size hTM mo_isBoard mo_width mo_height mo_newPerson (0 : Int32) (0 : Int32) mo_floor mo_newGoals mo_newBoxes mo_newFloor mo_newGoals mo_newBoxes mo_newPerson mo_newWidth (0 : Int32) hDO mo_many mo_taken mo_length hXB hXC hXF hXY hXS hXP hFA hLE, cI G hTM 160 aTM]) X [] [0, 1] (g_rS (As := [.long mo_newBoxes]) (rest := []) X (c_MO_countOf l G mo_newBoxes _ h _) lk_X6_75 rfl rfl ⟨Nat.le_of_ble_eq_true rfl, Nat.le_of_ble_eq_true rfl⟩ hP hD hS [] rfl rfl rfl hl.1 rfl (Nat.le_of_ble_eq_true rfl) dX6_read_251 ⟨Nat.le_of_ble_eq_true rfl, Nat.le_of_ble_eq_true rfl⟩) hP hD hS rfl rfl rfl (by decide) (fun r_1 u H locs h hP hD hS => ?_)
      try dsimp only at h
      replace hP := hP.sub (ws' := [cMO hMO mo_thrown mo_size hTM mo_isBoard mo_width mo_height mo_newPerson (0 : Int32) (0 : Int32) mo_floor mo_newGoals mo_newBoxes mo_newFloor mo_newGoals mo_newBoxes mo_newPerson mo_newWidth (0 : Int32) hDO mo_many mo_taken mo_length hXB hXC hXF hXY hXS hXP hFA hLE, cI G hTM 160 aTM]) [0, 1] rfl
      replace hD := hD.sub (ws' := [cMO hMO mo_thrown mo_size hTM mo_isBoard mo_width mo_height mo_newPerson (0 : Int32) (0 : Int32) mo_floor mo_newGoals mo_newBoxes mo_newFloor mo_newGoals mo_newBoxes mo_newPerson mo_newWidth (0 : Int32) hDO mo_many mo_taken mo_length hXB hXC hXF hXY hXS hXP hFA hLE, cI G hTM 160 aTM]) [0, 1] rfl rfl
      exact g_iret X (mo_thrown, mo_size, mo_isBoard, mo_width, mo_height, mo_newPerson, (0 : Int32), (0 : Int32), mo_floor, mo_newGoals, mo_newBoxes, mo_newFloor, mo_newGoals, mo_newBoxes, mo_newPerson, mo_newWidth, (0 : Int32)) h hP hD hS dX6_read_254
    · replace h := Eq.mp (if_neg hc) h
      refine lv_iconst (v := (0 : Int32)) X.1 X.2.1 dX6_read_149 (by decide) ?_
      refine lv_istore (lv' := [(4, .int (0 : Int32)), (0, .ref hMO), (3, .int v3)]) X.1 X.2.1 dX6_read_150 hl (by decide) rfl (fun ls hl => ?_)
      obtain ⟨n', h⟩ := h
      exact s_MO_read_152 X (fun mo_thrown' mo_size' mo_isBoard' mo_width' mo_height' mo_person' mo_moves' mo_pushes' mo_floor' mo_goals' mo_boxes' mo_newFloor' mo_newGoals' mo_newBoxes' mo_newPerson' mo_newWidth' mo_kept' v3' H' locs' ls' h' hP' hD' hS' hl' => ih mo_thrown' mo_size' mo_isBoard' mo_width' mo_height' mo_person' mo_moves' mo_pushes' mo_floor' mo_goals' mo_boxes' mo_newFloor' mo_newGoals' mo_newBoxes' mo_newPerson' mo_newWidth' mo_kept' v3' H' locs' ls' h' hP' hD' hS' hl') n' mo_thrown mo_size mo_isBoard mo_width mo_height mo_person mo_moves mo_pushes mo_floor mo_goals mo_boxes mo_newFloor mo_newGoals mo_newBoxes mo_newPerson mo_newWidth mo_kept v3 (0 : Int32) _ _ _ h hP hD hS (lv_sub hl [1, 2, 0] rfl)
set_option maxHeartbeats 4000000 in
set_option maxRecDepth 100000 in
theorem s_MO_read_55 {p : Program} {l : Launch} {e : Env} {s : State} {m : MethodId} {args : Array Value} {below : List Frame} {meth : Method} {c : Code} {G : gEnv} {A : Nat → Prop} {hMO : Nat} {hTM : Nat} {hDO : Nat} {hXB : Nat} {hXC : Nat} {hXF : Nat} {hXY : Nat} {hXS : Nat} {hXP : Nat} {hFA : Nat} {hLE : Nat} {mo_many : Int32} {mo_taken : Int32} {mo_length : Int32} {aTM : Nat → Int32} {k60 : Int32 → Int32 → Int32 → Int32 → Int32 → Int32 → Int32 → Int32 → Int64 → Int64 → Int64 → Int64 → Int64 → Int64 → Int32 → Int32 → Int32 → Int32 → Int32 → Int32 → Int32 → Prop} {post : Int32 → Int32 → Int32 → Int32 → Int32 → Int32 → Int32 → Int32 → Int32 → Int64 → Int64 → Int64 → Int64 → Int64 → Int64 → Int32 → Int32 → Int32 → Prop} (X : gX p m meth c cX6_read 5 RX6 (some .int) s args G A) (hk60 : ∀ (mo_thrown' : Int32) (mo_size' : Int32) (mo_isBoard' : Int32) (mo_width' : Int32) (mo_height' : Int32) (mo_person' : Int32) (mo_moves' : Int32) (mo_pushes' : Int32) (mo_floor' : Int64) (mo_goals' : Int64) (mo_boxes' : Int64) (mo_newFloor' : Int64) (mo_newGoals' : Int64) (mo_newBoxes' : Int64) (mo_newPerson' : Int32) (mo_newWidth' : Int32) (mo_kept' : Int32) (v1' : Int32) (v3' : Int32) (t0' : Int32) (t1' : Int32) (H : Heap) (locs : List Loc) (ls : Array Slot), k60 mo_thrown' mo_size' mo_isBoard' mo_width' mo_height' mo_person' mo_moves' mo_pushes' mo_floor' mo_goals' mo_boxes' mo_newFloor' mo_newGoals' mo_newBoxes' mo_newPerson' mo_newWidth' mo_kept' v1' v3' t0' t1' → va_P G.1 gCl [cMO hMO mo_thrown' mo_size' hTM mo_isBoard' mo_width' mo_height' mo_person' mo_moves' mo_pushes' mo_floor' mo_goals' mo_boxes' mo_newFloor' mo_newGoals' mo_newBoxes' mo_newPerson' mo_newWidth' mo_kept' hDO mo_many mo_taken mo_length hXB hXC hXF hXY hXS hXP hFA hLE, cI G hTM 160 aTM] H → va_D A [cMO hMO mo_thrown' mo_size' hTM mo_isBoard' mo_width' mo_height' mo_person' mo_moves' mo_pushes' mo_floor' mo_goals' mo_boxes' mo_newFloor' mo_newGoals' mo_newBoxes' mo_newPerson' mo_newWidth' mo_kept' hDO mo_many mo_taken mo_length hXB hXC hXF hXY hXS hXP hFA hLE, cI G hTM 160 aTM] → va_S A s.heap H locs → lv_has ls 5 [(0, .ref hMO), (1, .int v1'), (3, .int v3')] → W p l e rm_MO_read s m args below meth c H locs 0 0 (MQ below (gQi G (fun (r : Int32) (u : Int32 × Int32 × Int32 × Int32 × Int32 × Int32 × Int32 × Int32 × Int64 × Int64 × Int64 × Int64 × Int64 × Int64 × Int32 × Int32 × Int32) => post r u.1 u.2.1 u.2.2.1 u.2.2.2.1 u.2.2.2.2.1 u.2.2.2.2.2.1 u.2.2.2.2.2.2.1 u.2.2.2.2.2.2.2.1 u.2.2.2.2.2.2.2.2.1 u.2.2.2.2.2.2.2.2.2.1 u.2.2.2.2.2.2.2.2.2.2.1 u.2.2.2.2.2.2.2.2.2.2.2.1 u.2.2.2.2.2.2.2.2.2.2.2.2.1 u.2.2.2.2.2.2.2.2.2.2.2.2.2.1 u.2.2.2.2.2.2.2.2.2.2.2.2.2.2.1 u.2.2.2.2.2.2.2.2.2.2.2.2.2.2.2.1 u.2.2.2.2.2.2.2.2.2.2.2.2.2.2.2.2) (fun (u : Int32 × Int32 × Int32 × Int32 × Int32 × Int32 × Int32 × Int32 × Int64 × Int64 × Int64 × Int64 × Int64 × Int64 × Int32 × Int32 × Int32) => [cMO hMO u.1 u.2.1 hTM u.2.2.1 u.2.2.2.1 u.2.2.2.2.1 u.2.2.2.2.2.1 u.2.2.2.2.2.2.1 u.2.2.2.2.2.2.2.1 u.2.2.2.2.2.2.2.2.1 u.2.2.2.2.2.2.2.2.2.1 u.2.2.2.2.2.2.2.2.2.2.1 u.2.2.2.2.2.2.2.2.2.2.2.1 u.2.2.2.2.2.2.2.2.2.2.2.2.1 u.2.2.2.2.2.2.2.2.2.2.2.2.2.1 u.2.2.2.2.2.2.2.2.2.2.2.2.2.2.1 u.2.2.2.2.2.2.2.2.2.2.2.2.2.2.2.1 u.2.2.2.2.2.2.2.2.2.2.2.2.2.2.2.2 hDO mo_many mo_taken mo_length hXB hXC hXF hXY hXS hXP hFA hLE, cI G hTM 160 aTM]) A) args s 0 0 A) (F0 m 60 ls [.int t1', .int t0'])) : ∀ (mo_thrown : Int32) (mo_size : Int32) (mo_isBoard : Int32) (mo_width : Int32) (mo_height : Int32) (mo_person : Int32) (mo_moves : Int32) (mo_pushes : Int32) (mo_floor : Int64) (mo_goals : Int64) (mo_boxes : Int64) (mo_newFloor : Int64) (mo_newGoals : Int64) (mo_newBoxes : Int64) (mo_newPerson : Int32) (mo_newWidth : Int32) (mo_kept : Int32) (v1 : Int32) (v3 : Int32) (t0 : Int32) (H : Heap) (locs : List Loc) (ls : Array Slot), MO_read_55 aTM k60 post mo_thrown mo_size mo_isBoard mo_width mo_height mo_person mo_moves mo_pushes mo_floor mo_goals mo_boxes mo_newFloor mo_newGoals mo_newBoxes mo_newPerson mo_newWidth mo_kept v1 v3 t0 → va_P G.1 gCl [cMO hMO mo_thrown mo_size hTM mo_isBoard mo_width mo_height mo_person mo_moves mo_pushes mo_floor mo_goals mo_boxes mo_newFloor mo_newGoals mo_newBoxes mo_newPerson mo_newWidth mo_kept hDO mo_many mo_taken mo_length hXB hXC hXF hXY hXS hXP hFA hLE, cI G hTM 160 aTM] H → va_D A [cMO hMO mo_thrown mo_size hTM mo_isBoard mo_width mo_height mo_person mo_moves mo_pushes mo_floor mo_goals mo_boxes mo_newFloor mo_newGoals mo_newBoxes mo_newPerson mo_newWidth mo_kept hDO mo_many mo_taken mo_length hXB hXC hXF hXY hXS hXP hFA hLE, cI G hTM 160 aTM] → va_S A s.heap H locs → lv_has ls 5 [(0, .ref hMO), (1, .int v1), (3, .int v3)] → W p l e rm_MO_read s m args below meth c H locs 0 0 (MQ below (gQi G (fun (r : Int32) (u : Int32 × Int32 × Int32 × Int32 × Int32 × Int32 × Int32 × Int32 × Int64 × Int64 × Int64 × Int64 × Int64 × Int64 × Int32 × Int32 × Int32) => post r u.1 u.2.1 u.2.2.1 u.2.2.2.1 u.2.2.2.2.1 u.2.2.2.2.2.1 u.2.2.2.2.2.2.1 u.2.2.2.2.2.2.2.1 u.2.2.2.2.2.2.2.2.1 u.2.2.2.2.2.2.2.2.2.1 u.2.2.2.2.2.2.2.2.2.2.1 u.2.2.2.2.2.2.2.2.2.2.2.1 u.2.2.2.2.2.2.2.2.2.2.2.2.1 u.2.2.2.2.2.2.2.2.2.2.2.2.2.1 u.2.2.2.2.2.2.2.2.2.2.2.2.2.2.1 u.2.2.2.2.2.2.2.2.2.2.2.2.2.2.2.1 u.2.2.2.2.2.2.2.2.2.2.2.2.2.2.2.2) (fun (u : Int32 × Int32 × Int32 × Int32 × Int32 × Int32 × Int32 × Int32 × Int64 × Int64 × Int64 × Int64 × Int64 × Int64 × Int32 × Int32 × Int32) => [cMO hMO u.1 u.2.1 hTM u.2.2.1 u.2.2.2.1 u.2.2.2.2.1 u.2.2.2.2.2.1 u.2.2.2.2.2.2.1 u.2.2.2.2.2.2.2.1 u.2.2.2.2.2.2.2.2.1 u.2.2.2.2.2.2.2.2.2.1 u.2.2.2.2.2.2.2.2.2.2.1 u.2.2.2.2.2.2.2.2.2.2.2.1 u.2.2.2.2.2.2.2.2.2.2.2.2.1 u.2.2.2.2.2.2.2.2.2.2.2.2.2.1 u.2.2.2.2.2.2.2.2.2.2.2.2.2.2.1 u.2.2.2.2.2.2.2.2.2.2.2.2.2.2.2.1 u.2.2.2.2.2.2.2.2.2.2.2.2.2.2.2.2 hDO mo_many mo_taken mo_length hXB hXC hXF hXY hXS hXP hFA hLE, cI G hTM 160 aTM]) A) args s 0 0 A) (F0 m 55 ls [.int t0]) := by
  intro mo_thrown mo_size mo_isBoard mo_width mo_height mo_person mo_moves mo_pushes mo_floor mo_goals mo_boxes mo_newFloor mo_newGoals mo_newBoxes mo_newPerson mo_newWidth mo_kept v1 v3 t0 H locs ls h hP hD hS hl
  unfold MO_read_55 at h
  refine lv_iconst (v := (1 : Int32)) X.1 X.2.1 dX6_read_55 (by decide) ?_
  refine lv_goto (tgt := 60) X.1 X.2.1 dX6_read_56 (by decide) ?_
  exact hk60 mo_thrown mo_size mo_isBoard mo_width mo_height mo_person mo_moves mo_pushes mo_floor mo_goals mo_boxes mo_newFloor mo_newGoals mo_newBoxes mo_newPerson mo_newWidth mo_kept v1 v3 t0 (1 : Int32) _ _ _ h hP hD hS (lv_sub hl [0, 1, 2] rfl)
set_option maxHeartbeats 4000000 in
set_option maxRecDepth 100000 in
theorem s_MO_read_60 {p : Program} {l : Launch} {e : Env} {s : State} {m : MethodId} {args : Array Value} {below : List Frame} {meth : Method} {c : Code} {G : gEnv} {A : Nat → Prop} {hMO : Nat} {hTM : Nat} {hDO : Nat} {hXB : Nat} {hXC : Nat} {hXF : Nat} {hXY : Nat} {hXS : Nat} {hXP : Nat} {hFA : Nat} {hLE : Nat} {mo_many : Int32} {mo_taken : Int32} {mo_length : Int32} {aTM : Nat → Int32} {k14 : Int32 → Int32 → Int32 → Int32 → Int32 → Int32 → Int32 → Int32 → Int64 → Int64 → Int64 → Int64 → Int64 → Int64 → Int32 → Int32 → Int32 → Int32 → Int32 → Int32 → Prop} {post : Int32 → Int32 → Int32 → Int32 → Int32 → Int32 → Int32 → Int32 → Int32 → Int64 → Int64 → Int64 → Int64 → Int64 → Int64 → Int32 → Int32 → Int32 → Prop} (X : gX p m meth c cX6_read 5 RX6 (some .int) s args G A) (hk14 : ∀ (mo_thrown' : Int32) (mo_size' : Int32) (mo_isBoard' : Int32) (mo_width' : Int32) (mo_height' : Int32) (mo_person' : Int32) (mo_moves' : Int32) (mo_pushes' : Int32) (mo_floor' : Int64) (mo_goals' : Int64) (mo_boxes' : Int64) (mo_newFloor' : Int64) (mo_newGoals' : Int64) (mo_newBoxes' : Int64) (mo_newPerson' : Int32) (mo_newWidth' : Int32) (mo_kept' : Int32) (v1' : Int32) (v2' : Int32) (v3' : Int32) (H : Heap) (locs : List Loc) (ls : Array Slot), k14 mo_thrown' mo_size' mo_isBoard' mo_width' mo_height' mo_person' mo_moves' mo_pushes' mo_floor' mo_goals' mo_boxes' mo_newFloor' mo_newGoals' mo_newBoxes' mo_newPerson' mo_newWidth' mo_kept' v1' v2' v3' → va_P G.1 gCl [cMO hMO mo_thrown' mo_size' hTM mo_isBoard' mo_width' mo_height' mo_person' mo_moves' mo_pushes' mo_floor' mo_goals' mo_boxes' mo_newFloor' mo_newGoals' mo_newBoxes' mo_newPerson' mo_newWidth' mo_kept' hDO mo_many mo_taken mo_length hXB hXC hXF hXY hXS hXP hFA hLE, cI G hTM 160 aTM] H → va_D A [cMO hMO mo_thrown' mo_size' hTM mo_isBoard' mo_width' mo_height' mo_person' mo_moves' mo_pushes' mo_floor' mo_goals' mo_boxes' mo_newFloor' mo_newGoals' mo_newBoxes' mo_newPerson' mo_newWidth' mo_kept' hDO mo_many mo_taken mo_length hXB hXC hXF hXY hXS hXP hFA hLE, cI G hTM 160 aTM] → va_S A s.heap H locs → lv_has ls 5 [(0, .ref hMO), (1, .int v1'), (2, .int v2'), (3, .int v3')] → W p l e rm_MO_read s m args below meth c H locs 0 0 (MQ below (gQi G (fun (r : Int32) (u : Int32 × Int32 × Int32 × Int32 × Int32 × Int32 × Int32 × Int32 × Int64 × Int64 × Int64 × Int64 × Int64 × Int64 × Int32 × Int32 × Int32) => post r u.1 u.2.1 u.2.2.1 u.2.2.2.1 u.2.2.2.2.1 u.2.2.2.2.2.1 u.2.2.2.2.2.2.1 u.2.2.2.2.2.2.2.1 u.2.2.2.2.2.2.2.2.1 u.2.2.2.2.2.2.2.2.2.1 u.2.2.2.2.2.2.2.2.2.2.1 u.2.2.2.2.2.2.2.2.2.2.2.1 u.2.2.2.2.2.2.2.2.2.2.2.2.1 u.2.2.2.2.2.2.2.2.2.2.2.2.2.1 u.2.2.2.2.2.2.2.2.2.2.2.2.2.2.1 u.2.2.2.2.2.2.2.2.2.2.2.2.2.2.2.1 u.2.2.2.2.2.2.2.2.2.2.2.2.2.2.2.2) (fun (u : Int32 × Int32 × Int32 × Int32 × Int32 × Int32 × Int32 × Int32 × Int64 × Int64 × Int64 × Int64 × Int64 × Int64 × Int32 × Int32 × Int32) => [cMO hMO u.1 u.2.1 hTM u.2.2.1 u.2.2.2.1 u.2.2.2.2.1 u.2.2.2.2.2.1 u.2.2.2.2.2.2.1 u.2.2.2.2.2.2.2.1 u.2.2.2.2.2.2.2.2.1 u.2.2.2.2.2.2.2.2.2.1 u.2.2.2.2.2.2.2.2.2.2.1 u.2.2.2.2.2.2.2.2.2.2.2.1 u.2.2.2.2.2.2.2.2.2.2.2.2.1 u.2.2.2.2.2.2.2.2.2.2.2.2.2.1 u.2.2.2.2.2.2.2.2.2.2.2.2.2.2.1 u.2.2.2.2.2.2.2.2.2.2.2.2.2.2.2.1 u.2.2.2.2.2.2.2.2.2.2.2.2.2.2.2.2 hDO mo_many mo_taken mo_length hXB hXC hXF hXY hXS hXP hFA hLE, cI G hTM 160 aTM]) A) args s 0 0 A) (F0 m 14 ls [])) : ∀ (mo_thrown : Int32) (mo_size : Int32) (mo_isBoard : Int32) (mo_width : Int32) (mo_height : Int32) (mo_person : Int32) (mo_moves : Int32) (mo_pushes : Int32) (mo_floor : Int64) (mo_goals : Int64) (mo_boxes : Int64) (mo_newFloor : Int64) (mo_newGoals : Int64) (mo_newBoxes : Int64) (mo_newPerson : Int32) (mo_newWidth : Int32) (mo_kept : Int32) (v1 : Int32) (v3 : Int32) (t0 : Int32) (t1 : Int32) (H : Heap) (locs : List Loc) (ls : Array Slot), MO_read_60 aTM k14 post mo_thrown mo_size mo_isBoard mo_width mo_height mo_person mo_moves mo_pushes mo_floor mo_goals mo_boxes mo_newFloor mo_newGoals mo_newBoxes mo_newPerson mo_newWidth mo_kept v1 v3 t0 t1 → va_P G.1 gCl [cMO hMO mo_thrown mo_size hTM mo_isBoard mo_width mo_height mo_person mo_moves mo_pushes mo_floor mo_goals mo_boxes mo_newFloor mo_newGoals mo_newBoxes mo_newPerson mo_newWidth mo_kept hDO mo_many mo_taken mo_length hXB hXC hXF hXY hXS hXP hFA hLE, cI G hTM 160 aTM] H → va_D A [cMO hMO mo_thrown mo_size hTM mo_isBoard mo_width mo_height mo_person mo_moves mo_pushes mo_floor mo_goals mo_boxes mo_newFloor mo_newGoals mo_newBoxes mo_newPerson mo_newWidth mo_kept hDO mo_many mo_taken mo_length hXB hXC hXF hXY hXS hXP hFA hLE, cI G hTM 160 aTM] → va_S A s.heap H locs → lv_has ls 5 [(0, .ref hMO), (1, .int v1), (3, .int v3)] → W p l e rm_MO_read s m args below meth c H locs 0 0 (MQ below (gQi G (fun (r : Int32) (u : Int32 × Int32 × Int32 × Int32 × Int32 × Int32 × Int32 × Int32 × Int64 × Int64 × Int64 × Int64 × Int64 × Int64 × Int32 × Int32 × Int32) => post r u.1 u.2.1 u.2.2.1 u.2.2.2.1 u.2.2.2.2.1 u.2.2.2.2.2.1 u.2.2.2.2.2.2.1 u.2.2.2.2.2.2.2.1 u.2.2.2.2.2.2.2.2.1 u.2.2.2.2.2.2.2.2.2.1 u.2.2.2.2.2.2.2.2.2.2.1 u.2.2.2.2.2.2.2.2.2.2.2.1 u.2.2.2.2.2.2.2.2.2.2.2.2.1 u.2.2.2.2.2.2.2.2.2.2.2.2.2.1 u.2.2.2.2.2.2.2.2.2.2.2.2.2.2.1 u.2.2.2.2.2.2.2.2.2.2.2.2.2.2.2.1 u.2.2.2.2.2.2.2.2.2.2.2.2.2.2.2.2) (fun (u : Int32 × Int32 × Int32 × Int32 × Int32 × Int32 × Int32 × Int32 × Int64 × Int64 × Int64 × Int64 × Int64 × Int64 × Int32 × Int32 × Int32) => [cMO hMO u.1 u.2.1 hTM u.2.2.1 u.2.2.2.1 u.2.2.2.2.1 u.2.2.2.2.2.1 u.2.2.2.2.2.2.1 u.2.2.2.2.2.2.2.1 u.2.2.2.2.2.2.2.2.1 u.2.2.2.2.2.2.2.2.2.1 u.2.2.2.2.2.2.2.2.2.2.1 u.2.2.2.2.2.2.2.2.2.2.2.1 u.2.2.2.2.2.2.2.2.2.2.2.2.1 u.2.2.2.2.2.2.2.2.2.2.2.2.2.1 u.2.2.2.2.2.2.2.2.2.2.2.2.2.2.1 u.2.2.2.2.2.2.2.2.2.2.2.2.2.2.2.1 u.2.2.2.2.2.2.2.2.2.2.2.2.2.2.2.2 hDO mo_many mo_taken mo_length hXB hXC hXF hXY hXS hXP hFA hLE, cI G hTM 160 aTM]) A) args s 0 0 A) (F0 m 60 ls [.int t1, .int t0]) := by
  intro mo_thrown mo_size mo_isBoard mo_width mo_height mo_person mo_moves mo_pushes mo_floor mo_goals mo_boxes mo_newFloor mo_newGoals mo_newBoxes mo_newPerson mo_newWidth mo_kept v1 v3 t0 t1 H locs ls h hP hD hS hl
  unfold MO_read_60 at h
  refine lv_iadd X.1 X.2.1 dX6_read_60 ?_
  refine lv_topi (fun v2_1 e_v2_1 => ?_)
  replace h := h v2_1 e_v2_1
  refine lv_istore_n (lv' := [(2, .int v2_1), (0, .ref hMO), (1, .int v1), (3, .int v3)]) X.1 X.2.1 dX6_read_61 rfl hl (by decide) rfl (fun ls hl => ?_)
  refine lv_iinc (v := (v3 + (1 : Int32))) (lv' := [(3, .int (v3 + (1 : Int32))), (2, .int v2_1), (0, .ref hMO), (1, .int v1)]) X.1 X.2.1 dX6_read_62 hl (k := 3) rfl rfl (by decide) rfl (fun ls hl => ?_)
  refine lv_goto (tgt := 14) X.1 X.2.1 dX6_read_65 (by decide) ?_
  exact hk14 mo_thrown mo_size mo_isBoard mo_width mo_height mo_person mo_moves mo_pushes mo_floor mo_goals mo_boxes mo_newFloor mo_newGoals mo_newBoxes mo_newPerson mo_newWidth mo_kept v1 v2_1 (v3 + (1 : Int32)) _ _ _ h hP hD hS (lv_sub hl [2, 3, 1, 0] rfl)
set_option maxHeartbeats 4000000 in
set_option maxRecDepth 100000 in
theorem s_MO_read_14 {p : Program} {l : Launch} {e : Env} {s : State} {m : MethodId} {args : Array Value} {below : List Frame} {meth : Method} {c : Code} {G : gEnv} {A : Nat → Prop} {hMO : Nat} {hTM : Nat} {hDO : Nat} {hXB : Nat} {hXC : Nat} {hXF : Nat} {hXY : Nat} {hXS : Nat} {hXP : Nat} {hFA : Nat} {hLE : Nat} {mo_many : Int32} {mo_taken : Int32} {mo_length : Int32} {aTM : Nat → Int32} {post : Int32 → Int32 → Int32 → Int32 → Int32 → Int32 → Int32 → Int32 → Int32 → Int64 → Int64 → Int64 → Int64 → Int64 → Int64 → Int32 → Int32 → Int32 → Prop} (X : gX p m meth c cX6_read 5 RX6 (some .int) s args G A)  : ∀ (n : Nat) (mo_thrown : Int32) (mo_size : Int32) (mo_isBoard : Int32) (mo_width : Int32) (mo_height : Int32) (mo_person : Int32) (mo_moves : Int32) (mo_pushes : Int32) (mo_floor : Int64) (mo_goals : Int64) (mo_boxes : Int64) (mo_newFloor : Int64) (mo_newGoals : Int64) (mo_newBoxes : Int64) (mo_newPerson : Int32) (mo_newWidth : Int32) (mo_kept : Int32) (v1 : Int32) (v2 : Int32) (v3 : Int32) (H : Heap) (locs : List Loc) (ls : Array Slot), MO_read_14 aTM post n mo_thrown mo_size mo_isBoard mo_width mo_height mo_person mo_moves mo_pushes mo_floor mo_goals mo_boxes mo_newFloor mo_newGoals mo_newBoxes mo_newPerson mo_newWidth mo_kept v1 v2 v3 → va_P G.1 gCl [cMO hMO mo_thrown mo_size hTM mo_isBoard mo_width mo_height mo_person mo_moves mo_pushes mo_floor mo_goals mo_boxes mo_newFloor mo_newGoals mo_newBoxes mo_newPerson mo_newWidth mo_kept hDO mo_many mo_taken mo_length hXB hXC hXF hXY hXS hXP hFA hLE, cI G hTM 160 aTM] H → va_D A [cMO hMO mo_thrown mo_size hTM mo_isBoard mo_width mo_height mo_person mo_moves mo_pushes mo_floor mo_goals mo_boxes mo_newFloor mo_newGoals mo_newBoxes mo_newPerson mo_newWidth mo_kept hDO mo_many mo_taken mo_length hXB hXC hXF hXY hXS hXP hFA hLE, cI G hTM 160 aTM] → va_S A s.heap H locs → lv_has ls 5 [(0, .ref hMO), (1, .int v1), (2, .int v2), (3, .int v3)] → W p l e rm_MO_read s m args below meth c H locs 0 0 (MQ below (gQi G (fun (r : Int32) (u : Int32 × Int32 × Int32 × Int32 × Int32 × Int32 × Int32 × Int32 × Int64 × Int64 × Int64 × Int64 × Int64 × Int64 × Int32 × Int32 × Int32) => post r u.1 u.2.1 u.2.2.1 u.2.2.2.1 u.2.2.2.2.1 u.2.2.2.2.2.1 u.2.2.2.2.2.2.1 u.2.2.2.2.2.2.2.1 u.2.2.2.2.2.2.2.2.1 u.2.2.2.2.2.2.2.2.2.1 u.2.2.2.2.2.2.2.2.2.2.1 u.2.2.2.2.2.2.2.2.2.2.2.1 u.2.2.2.2.2.2.2.2.2.2.2.2.1 u.2.2.2.2.2.2.2.2.2.2.2.2.2.1 u.2.2.2.2.2.2.2.2.2.2.2.2.2.2.1 u.2.2.2.2.2.2.2.2.2.2.2.2.2.2.2.1 u.2.2.2.2.2.2.2.2.2.2.2.2.2.2.2.2) (fun (u : Int32 × Int32 × Int32 × Int32 × Int32 × Int32 × Int32 × Int32 × Int64 × Int64 × Int64 × Int64 × Int64 × Int64 × Int32 × Int32 × Int32) => [cMO hMO u.1 u.2.1 hTM u.2.2.1 u.2.2.2.1 u.2.2.2.2.1 u.2.2.2.2.2.1 u.2.2.2.2.2.2.1 u.2.2.2.2.2.2.2.1 u.2.2.2.2.2.2.2.2.1 u.2.2.2.2.2.2.2.2.2.1 u.2.2.2.2.2.2.2.2.2.2.1 u.2.2.2.2.2.2.2.2.2.2.2.1 u.2.2.2.2.2.2.2.2.2.2.2.2.1 u.2.2.2.2.2.2.2.2.2.2.2.2.2.1 u.2.2.2.2.2.2.2.2.2.2.2.2.2.2.1 u.2.2.2.2.2.2.2.2.2.2.2.2.2.2.2.1 u.2.2.2.2.2.2.2.2.2.2.2.2.2.2.2.2 hDO mo_many mo_taken mo_length hXB hXC hXF hXY hXS hXP hFA hLE, cI G hTM 160 aTM]) A) args s 0 0 A) (F0 m 14 ls []) := by
  intro n
  induction n with
  | zero => intro mo_thrown mo_size mo_isBoard mo_width mo_height mo_person mo_moves mo_pushes mo_floor mo_goals mo_boxes mo_newFloor mo_newGoals mo_newBoxes mo_newPerson mo_newWidth mo_kept v1 v2 v3 H locs ls h _ _ _ _; exact h.elim
  | succ n ih =>
    intro mo_thrown mo_size mo_isBoard mo_width mo_height mo_person mo_moves mo_pushes mo_floor mo_goals mo_boxes mo_newFloor mo_newGoals mo_newBoxes mo_newPerson mo_newWidth mo_kept v1 v2 v3 H locs ls h hP hD hS hl
    unfold MO_read_14 at h
    refine lv_iload_n X.1 X.2.1 dX6_read_14 rfl (lv_at hl 3 rfl) ?_
    refine lv_aload_n X.1 X.2.1 dX6_read_15 rfl (lv_at hl 0 rfl) ?_
    refine g_get X hP 0 6 1 (v := .int mo_size) rfl rfl inX6 (by decide) fl_X6_56 rfl dX6_read_16 ?_
    refine lv_icmp_ge (tgt := 68) X.1 X.2.1 dX6_read_19 (by decide) (fun hc => ?_) (fun hc => ?_)
    · replace h := Eq.mp (if_pos hc) h
      refine lv_aload_n X.1 X.2.1 dX6_read_68 rfl (lv_at hl 0 rfl) ?_
      refine lv_iconst (v := (0 : Int32)) X.1 X.2.1 dX6_read_69 (by decide) ?_
      refine g_put X hP hD hS 0 6 1 (v := .int (0 : Int32)) rfl rfl inX6 tyX6 tyX6_ok nmX6 (by decide) fl_X6_56 rfl rfl rfl rfl (Nat.le_of_ble_eq_true rfl) dX6_read_70 (fun H locs hP hD hS => ?_)
      replace hP : va_P G.1 gCl [cMO hMO mo_thrown (0 : Int32) hTM mo_isBoard mo_width mo_height mo_person mo_moves mo_pushes mo_floor mo_goals mo_boxes mo_newFloor mo_newGoals mo_newBoxes mo_newPerson mo_newWidth mo_kept hDO mo_many mo_taken mo_length hXB hXC hXF hXY hXS hXP hFA hLE, cI G hTM 160 aTM] H := hP
      replace hD : va_D A [cMO hMO mo_thrown (0 : Int32) hTM mo_isBoard mo_width mo_height mo_person mo_moves mo_pushes mo_floor mo_goals mo_boxes mo_newFloor mo_newGoals mo_newBoxes mo_newPerson mo_newWidth mo_kept hDO mo_many mo_taken mo_length hXB hXC hXF hXY hXS hXP hFA hLE, cI G hTM 160 aTM] := hD
      refine lv_iload_n X.1 X.2.1 dX6_read_73 rfl (lv_at hl 1 rfl) ?_
      refine lv_if_lt (tgt := 81) X.1 X.2.1 dX6_read_74 (by decide) (fun hc => ?_) (fun hc => ?_)
      · replace h := Eq.mp (if_pos hc) h
        refine lv_aload_n X.1 X.2.1 dX6_read_81 rfl (lv_at hl 0 rfl) ?_
        refine g_get X hP 0 6 16 (v := .int mo_newWidth) rfl rfl inX6 (by decide) fl_X6_72 rfl dX6_read_82 ?_
        refine lv_if_eq (tgt := 112) X.1 X.2.1 dX6_read_85 (by decide) (fun hc => ?_) (fun hc => ?_)
        · replace h := Eq.mp (if_pos hc) h
          refine lv_sipush (v := (-200 : Int32)) X.1 X.2.1 dX6_read_112 (by decide) ?_
          exact g_iret X (mo_thrown, (0 : Int32), mo_isBoard, mo_width, mo_height, mo_person, mo_moves, mo_pushes, mo_floor, mo_goals, mo_boxes, mo_newFloor, mo_newGoals, mo_newBoxes, mo_newPerson, mo_newWidth, mo_kept) h hP hD hS dX6_read_115
        · replace h := Eq.mp (if_neg hc) h
          refine lv_aload_n X.1 X.2.1 dX6_read_88 rfl (lv_at hl 0 rfl) ?_
          refine g_get X hP 0 6 15 (v := .int mo_newPerson) rfl rfl inX6 (by decide) fl_X6_69 rfl dX6_read_89 ?_
          refine lv_if_lt (tgt := 112) X.1 X.2.1 dX6_read_92 (by decide) (fun hc => ?_) (fun hc => ?_)
          · replace h := Eq.mp (if_pos hc) h
            refine lv_sipush (v := (-200 : Int32)) X.1 X.2.1 dX6_read_112 (by decide) ?_
            exact g_iret X (mo_thrown, (0 : Int32), mo_isBoard, mo_width, mo_height, mo_person, mo_moves, mo_pushes, mo_floor, mo_goals, mo_boxes, mo_newFloor, mo_newGoals, mo_newBoxes, mo_newPerson, mo_newWidth, mo_kept) h hP hD hS dX6_read_115
          · replace h := Eq.mp (if_neg hc) h
            refine lv_aload_n X.1 X.2.1 dX6_read_95 rfl (lv_at hl 0 rfl) ?_
            refine g_get X hP 0 6 14 (v := .long mo_newBoxes) rfl rfl inX6 (by decide) fl_X6_66 rfl dX6_read_96 ?_
            refine g_ci (wr := [cMO hMO mo_thrown (0 : Int32) hTM mo_isBoard mo_width mo_height mo_person mo_moves mo_pushes mo_floor mo_goals mo_boxes mo_newFloor mo_newGoals mo_newBoxes mo_newPerson mo_newWidth mo_kept hDO mo_many mo_taken mo_length hXB hXC hXF hXY hXS hXP hFA hLE, cI G hTM 160 aTM]) X [] [0, 1] (g_rS (As := [.long mo_newBoxes]) (rest := []) X (c_MO_countOf l G mo_newBoxes _ h _) lk_X6_75 rfl rfl ⟨Nat.le_of_ble_eq_true rfl, Nat.le_of_ble_eq_true rfl⟩ hP hD hS [] rfl rfl rfl hl.1 rfl (Nat.le_of_ble_eq_true rfl) dX6_read_99 ⟨Nat.le_of_ble_eq_true rfl, Nat.le_of_ble_eq_true rfl⟩) hP hD hS rfl rfl rfl (by decide) (fun r_1 u H locs h hP hD hS => ?_)
            try dsimp only at h
            replace hP := hP.sub (ws' := [cMO hMO mo_thrown (0 : Int32) hTM mo_isBoard mo_width mo_height mo_person mo_moves mo_pushes mo_floor mo_goals mo_boxes mo_newFloor mo_newGoals mo_newBoxes mo_newPerson mo_newWidth mo_kept hDO mo_many mo_taken mo_length hXB hXC hXF hXY hXS hXP hFA hLE, cI G hTM 160 aTM]) [0, 1] rfl
            replace hD := hD.sub (ws' := [cMO hMO mo_thrown (0 : Int32) hTM mo_isBoard mo_width mo_height mo_person mo_moves mo_pushes mo_floor mo_goals mo_boxes mo_newFloor mo_newGoals mo_newBoxes mo_newPerson mo_newWidth mo_kept hDO mo_many mo_taken mo_length hXB hXC hXF hXY hXS hXP hFA hLE, cI G hTM 160 aTM]) [0, 1] rfl rfl
            refine lv_aload_n X.1 X.2.1 dX6_read_102 rfl (lv_at hl 0 rfl) ?_
            refine g_get X hP 0 6 13 (v := .long mo_newGoals) rfl rfl inX6 (by decide) fl_X6_63 rfl dX6_read_103 ?_
            refine g_ci (wr := [cMO hMO mo_thrown (0 : Int32) hTM mo_isBoard mo_width mo_height mo_person mo_moves mo_pushes mo_floor mo_goals mo_boxes mo_newFloor mo_newGoals mo_newBoxes mo_newPerson mo_newWidth mo_kept hDO mo_many mo_taken mo_length hXB hXC hXF hXY hXS hXP hFA hLE, cI G hTM 160 aTM]) X [] [0, 1] (g_rS (As := [.long mo_newGoals]) (rest := [.int r_1]) X (c_MO_countOf l G mo_newGoals _ h _) lk_X6_75 rfl rfl ⟨Nat.le_of_ble_eq_true rfl, Nat.le_of_ble_eq_true rfl⟩ hP hD hS [] rfl rfl rfl hl.1 rfl (Nat.le_of_ble_eq_true rfl) dX6_read_106 ⟨Nat.le_of_ble_eq_true rfl, Nat.le_of_ble_eq_true rfl⟩) hP hD hS rfl rfl rfl (by decide) (fun r_2 u H locs h hP hD hS => ?_)
            try dsimp only at h
            replace hP := hP.sub (ws' := [cMO hMO mo_thrown (0 : Int32) hTM mo_isBoard mo_width mo_height mo_person mo_moves mo_pushes mo_floor mo_goals mo_boxes mo_newFloor mo_newGoals mo_newBoxes mo_newPerson mo_newWidth mo_kept hDO mo_many mo_taken mo_length hXB hXC hXF hXY hXS hXP hFA hLE, cI G hTM 160 aTM]) [0, 1] rfl
            replace hD := hD.sub (ws' := [cMO hMO mo_thrown (0 : Int32) hTM mo_isBoard mo_width mo_height mo_person mo_moves mo_pushes mo_floor mo_goals mo_boxes mo_newFloor mo_newGoals mo_newBoxes mo_newPerson mo_newWidth mo_kept hDO mo_many mo_taken mo_length hXB hXC hXF hXY hXS hXP hFA hLE, cI G hTM 160 aTM]) [0, 1] rfl rfl
            refine lv_icmp_ge (tgt := 116) X.1 X.2.1 dX6_read_109 (by decide) (fun hc => ?_) (fun hc => ?_)
            · replace h := Eq.mp (if_pos hc) h
              refine lv_aload_n X.1 X.2.1 dX6_read_116 rfl (lv_at hl 0 rfl) ?_
              refine lv_iconst (v := (1 : Int32)) X.1 X.2.1 dX6_read_117 (by decide) ?_
              refine g_put X hP hD hS 0 6 3 (v := .int (1 : Int32)) rfl rfl inX6 tyX6 tyX6_ok nmX6 (by decide) fl_X6_83 rfl rfl rfl rfl (Nat.le_of_ble_eq_true rfl) dX6_read_118 (fun H locs hP hD hS => ?_)
              replace hP : va_P G.1 gCl [cMO hMO mo_thrown (0 : Int32) hTM (1 : Int32) mo_width mo_height mo_person mo_moves mo_pushes mo_floor mo_goals mo_boxes mo_newFloor mo_newGoals mo_newBoxes mo_newPerson mo_newWidth mo_kept hDO mo_many mo_taken mo_length hXB hXC hXF hXY hXS hXP hFA hLE, cI G hTM 160 aTM] H := hP
              replace hD : va_D A [cMO hMO mo_thrown (0 : Int32) hTM (1 : Int32) mo_width mo_height mo_person mo_moves mo_pushes mo_floor mo_goals mo_boxes mo_newFloor mo_newGoals mo_newBoxes mo_newPerson mo_newWidth mo_kept hDO mo_many mo_taken mo_length hXB hXC hXF hXY hXS hXP hFA hLE, cI G hTM 160 aTM] := hD
              refine lv_aload_n X.1 X.2.1 dX6_read_121 rfl (lv_at hl 0 rfl) ?_
              refine lv_aload_n X.1 X.2.1 dX6_read_122 rfl (lv_at hl 0 rfl) ?_
              refine g_get X hP 0 6 16 (v := .int mo_newWidth) rfl rfl inX6 (by decide) fl_X6_72 rfl dX6_read_123 ?_
              refine g_put X hP hD hS 0 6 4 (v := .int mo_newWidth) rfl rfl inX6 tyX6 tyX6_ok nmX6 (by decide) fl_X6_46 rfl rfl rfl rfl (Nat.le_of_ble_eq_true rfl) dX6_read_126 (fun H locs hP hD hS => ?_)
              replace hP : va_P G.1 gCl [cMO hMO mo_thrown (0 : Int32) hTM (1 : Int32) mo_newWidth mo_height mo_person mo_moves mo_pushes mo_floor mo_goals mo_boxes mo_newFloor mo_newGoals mo_newBoxes mo_newPerson mo_newWidth mo_kept hDO mo_many mo_taken mo_length hXB hXC hXF hXY hXS hXP hFA hLE, cI G hTM 160 aTM] H := hP
              replace hD : va_D A [cMO hMO mo_thrown (0 : Int32) hTM (1 : Int32) mo_newWidth mo_height mo_person mo_moves mo_pushes mo_floor mo_goals mo_boxes mo_newFloor mo_newGoals mo_newBoxes mo_newPerson mo_newWidth mo_kept hDO mo_many mo_taken mo_length hXB hXC hXF hXY hXS hXP hFA hLE, cI G hTM 160 aTM] := hD
              refine lv_aload_n X.1 X.2.1 dX6_read_129 rfl (lv_at hl 0 rfl) ?_
              refine lv_iload_n X.1 X.2.1 dX6_read_130 rfl (lv_at hl 2 rfl) ?_
              refine g_put X hP hD hS 0 6 5 (v := .int v2) rfl rfl inX6 tyX6 tyX6_ok nmX6 (by decide) fl_X6_49 rfl rfl rfl rfl (Nat.le_of_ble_eq_true rfl) dX6_read_131 (fun H locs hP hD hS => ?_)
              replace hP : va_P G.1 gCl [cMO hMO mo_thrown (0 : Int32) hTM (1 : Int32) mo_newWidth v2 mo_person mo_moves mo_pushes mo_floor mo_goals mo_boxes mo_newFloor mo_newGoals mo_newBoxes mo_newPerson mo_newWidth mo_kept hDO mo_many mo_taken mo_length hXB hXC hXF hXY hXS hXP hFA hLE, cI G hTM 160 aTM] H := hP
              replace hD : va_D A [cMO hMO mo_thrown (0 : Int32) hTM (1 : Int32) mo_newWidth v2 mo_person mo_moves mo_pushes mo_floor mo_goals mo_boxes mo_newFloor mo_newGoals mo_newBoxes mo_newPerson mo_newWidth mo_kept hDO mo_many mo_taken mo_length hXB hXC hXF hXY hXS hXP hFA hLE, cI G hTM 160 aTM] := hD
              refine lv_aload_n X.1 X.2.1 dX6_read_134 rfl (lv_at hl 0 rfl) ?_
              refine lv_lconst (v := (0 : Int64)) X.1 X.2.1 dX6_read_135 (by decide) ?_
              refine g_put X hP hD hS 0 6 9 (v := .long (0 : Int64)) rfl rfl inX6 tyX6 tyX6_ok nmX6 (by decide) fl_X6_87 rfl rfl rfl rfl (Nat.le_of_ble_eq_true rfl) dX6_read_136 (fun H locs hP hD hS => ?_)
              replace hP : va_P G.1 gCl [cMO hMO mo_thrown (0 : Int32) hTM (1 : Int32) mo_newWidth v2 mo_person mo_moves mo_pushes (0 : Int64) mo_goals mo_boxes mo_newFloor mo_newGoals mo_newBoxes mo_newPerson mo_newWidth mo_kept hDO mo_many mo_taken mo_length hXB hXC hXF hXY hXS hXP hFA hLE, cI G hTM 160 aTM] H := hP
              replace hD : va_D A [cMO hMO mo_thrown (0 : Int32) hTM (1 : Int32) mo_newWidth v2 mo_person mo_moves mo_pushes (0 : Int64) mo_goals mo_boxes mo_newFloor mo_newGoals mo_newBoxes mo_newPerson mo_newWidth mo_kept hDO mo_many mo_taken mo_length hXB hXC hXF hXY hXS hXP hFA hLE, cI G hTM 160 aTM] := hD
              refine lv_iconst (v := (0 : Int32)) X.1 X.2.1 dX6_read_139 (by decide) ?_
              refine lv_istore_n (lv' := [(3, .int (0 : Int32)), (0, .ref hMO), (1, .int v1), (2, .int v2)]) X.1 X.2.1 dX6_read_140 rfl hl (by decide) rfl (fun ls hl => ?_)
              obtain ⟨n', h⟩ := h
              exact s_MO_read_141 X  n' mo_thrown (0 : Int32) (1 : Int32) mo_newWidth v2 mo_person mo_moves mo_pushes (0 : Int64) mo_goals mo_boxes mo_newFloor mo_newGoals mo_newBoxes mo_newPerson mo_newWidth mo_kept (0 : Int32) _ _ _ h hP hD hS (lv_sub hl [1, 0] rfl)
            · replace h := Eq.mp (if_neg hc) h
              refine lv_sipush (v := (-200 : Int32)) X.1 X.2.1 dX6_read_112 (by decide) ?_
              exact g_iret X (mo_thrown, (0 : Int32), mo_isBoard, mo_width, mo_height, mo_person, mo_moves, mo_pushes, mo_floor, mo_goals, mo_boxes, mo_newFloor, mo_newGoals, mo_newBoxes, mo_newPerson, mo_newWidth, mo_kept) h hP hD hS dX6_read_115
      · replace h := Eq.mp (if_neg hc) h
        refine lv_iconst (v := (-1 : Int32)) X.1 X.2.1 dX6_read_77 (by decide) ?_
        refine lv_iload_n X.1 X.2.1 dX6_read_78 rfl (lv_at hl 1 rfl) ?_
        refine lv_isub X.1 X.2.1 dX6_read_79 ?_
        exact g_iret X (mo_thrown, (0 : Int32), mo_isBoard, mo_width, mo_height, mo_person, mo_moves, mo_pushes, mo_floor, mo_goals, mo_boxes, mo_newFloor, mo_newGoals, mo_newBoxes, mo_newPerson, mo_newWidth, mo_kept) h hP hD hS dX6_read_80
    · replace h := Eq.mp (if_neg hc) h
      refine lv_iload_n X.1 X.2.1 dX6_read_22 rfl (lv_at hl 2 rfl) ?_
      refine lv_aload_n X.1 X.2.1 dX6_read_23 rfl (lv_at hl 0 rfl) ?_
      refine g_get X hP 0 6 2 (v := .ref hTM) rfl rfl inX6 (by decide) fl_X6_7 rfl dX6_read_24 ?_
      refine lv_iload_n X.1 X.2.1 dX6_read_27 rfl (lv_at hl 3 rfl) ?_
      obtain ⟨hin, h⟩ := h
      refine va_iald (D := G.1) X.1 X.2.1 X.k.1 hP 1 0 rfl rfl hin dX6_read_28 ?_
      refine lv_bipush (v := (10 : Int32)) X.1 X.2.1 dX6_read_29 (by decide) ?_
      refine lv_icmp_eq (tgt := 55) X.1 X.2.1 dX6_read_31 (by decide) (fun hc => ?_) (fun hc => ?_)
      · replace h := Eq.mp (if_pos hc) h
        exact s_MO_read_55 X (fun mo_thrown' mo_size' mo_isBoard' mo_width' mo_height' mo_person' mo_moves' mo_pushes' mo_floor' mo_goals' mo_boxes' mo_newFloor' mo_newGoals' mo_newBoxes' mo_newPerson' mo_newWidth' mo_kept' v1' v3' t0' t1' H' locs' ls' h' hP' hD' hS' hl' => s_MO_read_60 X (fun mo_thrown' mo_size' mo_isBoard' mo_width' mo_height' mo_person' mo_moves' mo_pushes' mo_floor' mo_goals' mo_boxes' mo_newFloor' mo_newGoals' mo_newBoxes' mo_newPerson' mo_newWidth' mo_kept' v1' v2' v3' H' locs' ls' h' hP' hD' hS' hl' => ih mo_thrown' mo_size' mo_isBoard' mo_width' mo_height' mo_person' mo_moves' mo_pushes' mo_floor' mo_goals' mo_boxes' mo_newFloor' mo_newGoals' mo_newBoxes' mo_newPerson' mo_newWidth' mo_kept' v1' v2' v3' H' locs' ls' h' hP' hD' hS' hl') mo_thrown' mo_size' mo_isBoard' mo_width' mo_height' mo_person' mo_moves' mo_pushes' mo_floor' mo_goals' mo_boxes' mo_newFloor' mo_newGoals' mo_newBoxes' mo_newPerson' mo_newWidth' mo_kept' v1' v3' t0' t1' H' locs' ls' h' hP' hD' hS' hl') mo_thrown mo_size mo_isBoard mo_width mo_height mo_person mo_moves mo_pushes mo_floor mo_goals mo_boxes mo_newFloor mo_newGoals mo_newBoxes mo_newPerson mo_newWidth mo_kept v1 v3 v2 _ _ _ h hP hD hS (lv_sub hl [0, 1, 3] rfl)
      · replace h := Eq.mp (if_neg hc) h
        refine lv_aload_n X.1 X.2.1 dX6_read_34 rfl (lv_at hl 0 rfl) ?_
        refine g_get X hP 0 6 2 (v := .ref hTM) rfl rfl inX6 (by decide) fl_X6_7 rfl dX6_read_35 ?_
        refine lv_iload_n X.1 X.2.1 dX6_read_38 rfl (lv_at hl 3 rfl) ?_
        obtain ⟨hin, h⟩ := h
        refine va_iald (D := G.1) X.1 X.2.1 X.k.1 hP 1 0 rfl rfl hin dX6_read_39 ?_
        refine lv_bipush (v := (124 : Int32)) X.1 X.2.1 dX6_read_40 (by decide) ?_
        refine lv_icmp_eq (tgt := 55) X.1 X.2.1 dX6_read_42 (by decide) (fun hc => ?_) (fun hc => ?_)
        · replace h := Eq.mp (if_pos hc) h
          exact s_MO_read_55 X (fun mo_thrown' mo_size' mo_isBoard' mo_width' mo_height' mo_person' mo_moves' mo_pushes' mo_floor' mo_goals' mo_boxes' mo_newFloor' mo_newGoals' mo_newBoxes' mo_newPerson' mo_newWidth' mo_kept' v1' v3' t0' t1' H' locs' ls' h' hP' hD' hS' hl' => s_MO_read_60 X (fun mo_thrown' mo_size' mo_isBoard' mo_width' mo_height' mo_person' mo_moves' mo_pushes' mo_floor' mo_goals' mo_boxes' mo_newFloor' mo_newGoals' mo_newBoxes' mo_newPerson' mo_newWidth' mo_kept' v1' v2' v3' H' locs' ls' h' hP' hD' hS' hl' => ih mo_thrown' mo_size' mo_isBoard' mo_width' mo_height' mo_person' mo_moves' mo_pushes' mo_floor' mo_goals' mo_boxes' mo_newFloor' mo_newGoals' mo_newBoxes' mo_newPerson' mo_newWidth' mo_kept' v1' v2' v3' H' locs' ls' h' hP' hD' hS' hl') mo_thrown' mo_size' mo_isBoard' mo_width' mo_height' mo_person' mo_moves' mo_pushes' mo_floor' mo_goals' mo_boxes' mo_newFloor' mo_newGoals' mo_newBoxes' mo_newPerson' mo_newWidth' mo_kept' v1' v3' t0' t1' H' locs' ls' h' hP' hD' hS' hl') mo_thrown mo_size mo_isBoard mo_width mo_height mo_person mo_moves mo_pushes mo_floor mo_goals mo_boxes mo_newFloor mo_newGoals mo_newBoxes mo_newPerson mo_newWidth mo_kept v1 v3 v2 _ _ _ h hP hD hS (lv_sub hl [0, 1, 3] rfl)
        · replace h := Eq.mp (if_neg hc) h
          refine lv_iload_n X.1 X.2.1 dX6_read_45 rfl (lv_at hl 3 rfl) ?_
          refine lv_aload_n X.1 X.2.1 dX6_read_46 rfl (lv_at hl 0 rfl) ?_
          refine g_get X hP 0 6 1 (v := .int mo_size) rfl rfl inX6 (by decide) fl_X6_56 rfl dX6_read_47 ?_
          refine lv_iconst (v := (1 : Int32)) X.1 X.2.1 dX6_read_50 (by decide) ?_
          refine lv_isub X.1 X.2.1 dX6_read_51 ?_
          refine lv_icmp_ne (tgt := 59) X.1 X.2.1 dX6_read_52 (by decide) (fun hc => ?_) (fun hc => ?_)
          · replace h := Eq.mp (if_neg hc) h
            refine lv_iconst (v := (0 : Int32)) X.1 X.2.1 dX6_read_59 (by decide) ?_
            exact s_MO_read_60 X (fun mo_thrown' mo_size' mo_isBoard' mo_width' mo_height' mo_person' mo_moves' mo_pushes' mo_floor' mo_goals' mo_boxes' mo_newFloor' mo_newGoals' mo_newBoxes' mo_newPerson' mo_newWidth' mo_kept' v1' v2' v3' H' locs' ls' h' hP' hD' hS' hl' => ih mo_thrown' mo_size' mo_isBoard' mo_width' mo_height' mo_person' mo_moves' mo_pushes' mo_floor' mo_goals' mo_boxes' mo_newFloor' mo_newGoals' mo_newBoxes' mo_newPerson' mo_newWidth' mo_kept' v1' v2' v3' H' locs' ls' h' hP' hD' hS' hl') mo_thrown mo_size mo_isBoard mo_width mo_height mo_person mo_moves mo_pushes mo_floor mo_goals mo_boxes mo_newFloor mo_newGoals mo_newBoxes mo_newPerson mo_newWidth mo_kept v1 v3 v2 (0 : Int32) _ _ _ h hP hD hS (lv_sub hl [0, 1, 3] rfl)
          · replace h := Eq.mp (if_pos hc) h
            exact s_MO_read_55 X (fun mo_thrown' mo_size' mo_isBoard' mo_width' mo_height' mo_person' mo_moves' mo_pushes' mo_floor' mo_goals' mo_boxes' mo_newFloor' mo_newGoals' mo_newBoxes' mo_newPerson' mo_newWidth' mo_kept' v1' v3' t0' t1' H' locs' ls' h' hP' hD' hS' hl' => s_MO_read_60 X (fun mo_thrown' mo_size' mo_isBoard' mo_width' mo_height' mo_person' mo_moves' mo_pushes' mo_floor' mo_goals' mo_boxes' mo_newFloor' mo_newGoals' mo_newBoxes' mo_newPerson' mo_newWidth' mo_kept' v1' v2' v3' H' locs' ls' h' hP' hD' hS' hl' => ih mo_thrown' mo_size' mo_isBoard' mo_width' mo_height' mo_person' mo_moves' mo_pushes' mo_floor' mo_goals' mo_boxes' mo_newFloor' mo_newGoals' mo_newBoxes' mo_newPerson' mo_newWidth' mo_kept' v1' v2' v3' H' locs' ls' h' hP' hD' hS' hl') mo_thrown' mo_size' mo_isBoard' mo_width' mo_height' mo_person' mo_moves' mo_pushes' mo_floor' mo_goals' mo_boxes' mo_newFloor' mo_newGoals' mo_newBoxes' mo_newPerson' mo_newWidth' mo_kept' v1' v3' t0' t1' H' locs' ls' h' hP' hD' hS' hl') mo_thrown mo_size mo_isBoard mo_width mo_height mo_person mo_moves mo_pushes mo_floor mo_goals mo_boxes mo_newFloor mo_newGoals mo_newBoxes mo_newPerson mo_newWidth mo_kept v1 v3 v2 _ _ _ h hP hD hS (lv_sub hl [0, 1, 3] rfl)
set_option maxHeartbeats 4000000 in
set_option maxRecDepth 100000 in
theorem c_MO_read (l : Launch) (G : gEnv) (hMO : Nat) (hTM : Nat) (hDO : Nat) (hXB : Nat) (hXC : Nat) (hXF : Nat) (hXY : Nat) (hXS : Nat) (hXP : Nat) (hFA : Nat) (hLE : Nat) (mo_thrown : Int32) (mo_size : Int32) (mo_isBoard : Int32) (mo_width : Int32) (mo_height : Int32) (mo_person : Int32) (mo_moves : Int32) (mo_pushes : Int32) (mo_floor : Int64) (mo_goals : Int64) (mo_boxes : Int64) (mo_newFloor : Int64) (mo_newGoals : Int64) (mo_newBoxes : Int64) (mo_newPerson : Int32) (mo_newWidth : Int32) (mo_kept : Int32) (mo_many : Int32) (mo_taken : Int32) (mo_length : Int32) (aTM : Nat → Int32) (post : Int32 → Int32 → Int32 → Int32 → Int32 → Int32 → Int32 → Int32 → Int32 → Int64 → Int64 → Int64 → Int64 → Int64 → Int64 → Int32 → Int32 → Int32 → Prop) (h : MO_read aTM mo_thrown mo_size mo_isBoard mo_width mo_height mo_person mo_moves mo_pushes mo_floor mo_goals mo_boxes mo_newFloor mo_newGoals mo_newBoxes mo_newPerson mo_newWidth mo_kept post) (sz : Nat) : Met l yX6_read (Cond.code yX6_read cX6_read 5 (some .int) :: wAll) (rm_MO_read) (gPc G [.ref hMO] [cMO hMO mo_thrown mo_size hTM mo_isBoard mo_width mo_height mo_person mo_moves mo_pushes mo_floor mo_goals mo_boxes mo_newFloor mo_newGoals mo_newBoxes mo_newPerson mo_newWidth mo_kept hDO mo_many mo_taken mo_length hXB hXC hXF hXY hXS hXP hFA hLE, cI G hTM 160 aTM] sz) (gQi G (fun (r : Int32) (u : Int32 × Int32 × Int32 × Int32 × Int32 × Int32 × Int32 × Int32 × Int64 × Int64 × Int64 × Int64 × Int64 × Int64 × Int32 × Int32 × Int32) => post r u.1 u.2.1 u.2.2.1 u.2.2.2.1 u.2.2.2.2.1 u.2.2.2.2.2.1 u.2.2.2.2.2.2.1 u.2.2.2.2.2.2.2.1 u.2.2.2.2.2.2.2.2.1 u.2.2.2.2.2.2.2.2.2.1 u.2.2.2.2.2.2.2.2.2.2.1 u.2.2.2.2.2.2.2.2.2.2.2.1 u.2.2.2.2.2.2.2.2.2.2.2.2.1 u.2.2.2.2.2.2.2.2.2.2.2.2.2.1 u.2.2.2.2.2.2.2.2.2.2.2.2.2.2.1 u.2.2.2.2.2.2.2.2.2.2.2.2.2.2.2.1 u.2.2.2.2.2.2.2.2.2.2.2.2.2.2.2.2) (fun (u : Int32 × Int32 × Int32 × Int32 × Int32 × Int32 × Int32 × Int32 × Int64 × Int64 × Int64 × Int64 × Int64 × Int64 × Int32 × Int32 × Int32) => [cMO hMO u.1 u.2.1 hTM u.2.2.1 u.2.2.2.1 u.2.2.2.2.1 u.2.2.2.2.2.1 u.2.2.2.2.2.2.1 u.2.2.2.2.2.2.2.1 u.2.2.2.2.2.2.2.2.1 u.2.2.2.2.2.2.2.2.2.1 u.2.2.2.2.2.2.2.2.2.2.1 u.2.2.2.2.2.2.2.2.2.2.2.1 u.2.2.2.2.2.2.2.2.2.2.2.2.1 u.2.2.2.2.2.2.2.2.2.2.2.2.2.1 u.2.2.2.2.2.2.2.2.2.2.2.2.2.2.1 u.2.2.2.2.2.2.2.2.2.2.2.2.2.2.2.1 u.2.2.2.2.2.2.2.2.2.2.2.2.2.2.2.2 hDO mo_many mo_taken mo_length hXB hXC hXF hXY hXS hXP hFA hLE, cI G hTM 160 aTM]) (va_A [cMO hMO mo_thrown mo_size hTM mo_isBoard mo_width mo_height mo_person mo_moves mo_pushes mo_floor mo_goals mo_boxes mo_newFloor mo_newGoals mo_newBoxes mo_newPerson mo_newWidth mo_kept hDO mo_many mo_taken mo_length hXB hXC hXF hXY hXS hXP hFA hLE, cI G hTM 160 aTM] sz)) 0 0 (va_A [cMO hMO mo_thrown mo_size hTM mo_isBoard mo_width mo_height mo_person mo_moves mo_pushes mo_floor mo_goals mo_boxes mo_newFloor mo_newGoals mo_newBoxes mo_newPerson mo_newWidth mo_kept hDO mo_many mo_taken mo_length hXB hXC hXF hXY hXS hXP hFA hLE, cI G hTM 160 aTM] sz) := by
  refine Met.ofW (cc := cX6_read) (maxL := 5) (ret := (some .int)) (by decide) rfl ?_
  intro p e s m args below meth c s₁ B hml hv
  obtain ⟨rfl, hsz, hP, hK, hD0⟩ := hv
  subst hsz
  have X := gX.ofB (ws := [cMO hMO mo_thrown mo_size hTM mo_isBoard mo_width mo_height mo_person mo_moves mo_pushes mo_floor mo_goals mo_boxes mo_newFloor mo_newGoals mo_newBoxes mo_newPerson mo_newWidth mo_kept hDO mo_many mo_taken mo_length hXB hXC hXF hXY hXS hXP hFA hLE, cI G hTM 160 aTM]) B hml hK hD0
  have hD := hD0.self (sz := s.heap.size)
  generalize hAe : va_A [cMO hMO mo_thrown mo_size hTM mo_isBoard mo_width mo_height mo_person mo_moves mo_pushes mo_floor mo_goals mo_boxes mo_newFloor mo_newGoals mo_newBoxes mo_newPerson mo_newWidth mo_kept hDO mo_many mo_taken mo_length hXB hXC hXF hXY hXS hXP hFA hLE, cI G hTM 160 aTM] s.heap.size = A at X hD ⊢
  have hS : va_S A s.heap s.heap [] := va_S.rf
  have hl := lv_entry ([.ref hMO]) (n := 5) (Nat.le_of_ble_eq_true rfl)
  rw [lg_entry_eq]
  generalize (lg_sl ([.ref hMO]) ++ List.replicate (5 - (lg_sl ([.ref hMO])).length) Slot.unset).toArray = ls at hl ⊢
  have hl : lv_has ls 5 [(0, .ref hMO)] := hl
  dsimp only [headSpec]
  unfold MO_read at h
  refine lv_aload_n X.1 X.2.1 dX6_read_0 rfl (lv_at hl 0 rfl) ?_
  refine lv_iconst (v := (0 : Int32)) X.1 X.2.1 dX6_read_1 (by decide) ?_
  refine g_put X hP hD hS 0 6 0 (v := .int (0 : Int32)) rfl rfl inX6 tyX6 tyX6_ok nmX6 (by decide) fl_X6_42 rfl rfl rfl rfl (Nat.le_of_ble_eq_true rfl) dX6_read_2 (fun H locs hP hD hS => ?_)
  replace hP : va_P G.1 gCl [cMO hMO (0 : Int32) mo_size hTM mo_isBoard mo_width mo_height mo_person mo_moves mo_pushes mo_floor mo_goals mo_boxes mo_newFloor mo_newGoals mo_newBoxes mo_newPerson mo_newWidth mo_kept hDO mo_many mo_taken mo_length hXB hXC hXF hXY hXS hXP hFA hLE, cI G hTM 160 aTM] H := hP
  replace hD : va_D A [cMO hMO (0 : Int32) mo_size hTM mo_isBoard mo_width mo_height mo_person mo_moves mo_pushes mo_floor mo_goals mo_boxes mo_newFloor mo_newGoals mo_newBoxes mo_newPerson mo_newWidth mo_kept hDO mo_many mo_taken mo_length hXB hXC hXF hXY hXS hXP hFA hLE, cI G hTM 160 aTM] := hD
  refine lv_aload_n X.1 X.2.1 dX6_read_5 rfl (lv_at hl 0 rfl) ?_
  refine g_ci (wr := []) X [0, 1] [] (g_rV (As := []) (rest := []) X (c_MO_look l G hMO hTM hDO hXB hXC hXF hXY hXS hXP hFA hLE (0 : Int32) mo_size mo_isBoard mo_width mo_height mo_person mo_moves mo_pushes mo_floor mo_goals mo_boxes mo_newFloor mo_newGoals mo_newBoxes mo_newPerson mo_newWidth mo_kept mo_many mo_taken mo_length aTM _ h _) lk_X6_79 rfl rfl ⟨Nat.le_of_ble_eq_true rfl, Nat.le_of_ble_eq_true rfl⟩ hP hD hS [0, 1] rfl rfl 0 6 rfl rfl rfl hl.1 rfl (Nat.le_of_ble_eq_true rfl) dX6_read_6 ⟨Nat.le_of_ble_eq_true rfl, Nat.le_of_ble_eq_true rfl⟩) hP hD hS rfl rfl rfl (by decide) (fun r_1 u H locs h hP hD hS => ?_)
  obtain ⟨mo_newFloor_2, mo_newGoals_3, mo_newBoxes_4, mo_newPerson_5, mo_newWidth_6⟩ := u
  try dsimp only at h
  replace hP := hP.sub (ws' := [cMO hMO (0 : Int32) mo_size hTM mo_isBoard mo_width mo_height mo_person mo_moves mo_pushes mo_floor mo_goals mo_boxes mo_newFloor_2 mo_newGoals_3 mo_newBoxes_4 mo_newPerson_5 mo_newWidth_6 mo_kept hDO mo_many mo_taken mo_length hXB hXC hXF hXY hXS hXP hFA hLE, cI G hTM 160 aTM]) [0, 1] rfl
  replace hD := hD.sub (ws' := [cMO hMO (0 : Int32) mo_size hTM mo_isBoard mo_width mo_height mo_person mo_moves mo_pushes mo_floor mo_goals mo_boxes mo_newFloor_2 mo_newGoals_3 mo_newBoxes_4 mo_newPerson_5 mo_newWidth_6 mo_kept hDO mo_many mo_taken mo_length hXB hXC hXF hXY hXS hXP hFA hLE, cI G hTM 160 aTM]) [0, 1] rfl rfl
  refine lv_istore_n (lv' := [(1, .int r_1), (0, .ref hMO)]) X.1 X.2.1 dX6_read_9 rfl hl (by decide) rfl (fun ls hl => ?_)
  refine lv_iconst (v := (0 : Int32)) X.1 X.2.1 dX6_read_10 (by decide) ?_
  refine lv_istore_n (lv' := [(2, .int (0 : Int32)), (1, .int r_1), (0, .ref hMO)]) X.1 X.2.1 dX6_read_11 rfl hl (by decide) rfl (fun ls hl => ?_)
  refine lv_iconst (v := (0 : Int32)) X.1 X.2.1 dX6_read_12 (by decide) ?_
  refine lv_istore_n (lv' := [(3, .int (0 : Int32)), (2, .int (0 : Int32)), (1, .int r_1), (0, .ref hMO)]) X.1 X.2.1 dX6_read_13 rfl hl (by decide) rfl (fun ls hl => ?_)
  obtain ⟨n', h⟩ := h
  exact s_MO_read_14 X  n' (0 : Int32) mo_size mo_isBoard mo_width mo_height mo_person mo_moves mo_pushes mo_floor mo_goals mo_boxes mo_newFloor_2 mo_newGoals_3 mo_newBoxes_4 mo_newPerson_5 mo_newWidth_6 mo_kept r_1 (0 : Int32) (0 : Int32) _ _ _ h hP hD hS (lv_sub hl [3, 2, 1, 0] rfl)
abbrev rm_MO_go : Room := { frames := 2, cells := 0, slots := 0, locals := 46 }
set_option maxHeartbeats 4000000 in
set_option maxRecDepth 100000 in
theorem s_MO_go_133 {p : Program} {l : Launch} {e : Env} {s : State} {m : MethodId} {args : Array Value} {below : List Frame} {meth : Method} {c : Code} {G : gEnv} {A : Nat → Prop} {hMO : Nat} {hTM : Nat} {hDO : Nat} {hXB : Nat} {hXC : Nat} {hXF : Nat} {hXY : Nat} {hXS : Nat} {hXP : Nat} {hFA : Nat} {hLE : Nat} {mo_thrown : Int32} {mo_size : Int32} {mo_isBoard : Int32} {mo_goals : Int64} {mo_newFloor : Int64} {mo_newGoals : Int64} {mo_newBoxes : Int64} {mo_newPerson : Int32} {mo_newWidth : Int32} {mo_many : Int32} {mo_taken : Int32} {mo_length : Int32} {mo_width : Int32} {mo_height : Int32} {mo_floor : Int64} {k173 : Int32 → Int32 → Int32 → Int64 → Int32 → (Nat → Int32) → Int32 → Int32 → Prop} {post : Int32 → Int32 → Int32 → Int32 → Int64 → Int32 → (Nat → Int32) → Prop} (X : gX p m meth c cX6_go 5 RX6 (some .int) s args G A) (hk173 : ∀ (mo_person' : Int32) (mo_moves' : Int32) (mo_pushes' : Int32) (mo_boxes' : Int64) (mo_kept' : Int32) (aDO' : (Nat → Int32)) (v1' : Int32) (v3' : Int32) (H : Heap) (locs : List Loc) (ls : Array Slot), k173 mo_person' mo_moves' mo_pushes' mo_boxes' mo_kept' aDO' v1' v3' → va_P G.1 gCl [cMO hMO mo_thrown mo_size hTM mo_isBoard mo_width mo_height mo_person' mo_moves' mo_pushes' mo_floor mo_goals mo_boxes' mo_newFloor mo_newGoals mo_newBoxes mo_newPerson mo_newWidth mo_kept' hDO mo_many mo_taken mo_length hXB hXC hXF hXY hXS hXP hFA hLE, cI G hDO 500 aDO'] H → va_D A [cMO hMO mo_thrown mo_size hTM mo_isBoard mo_width mo_height mo_person' mo_moves' mo_pushes' mo_floor mo_goals mo_boxes' mo_newFloor mo_newGoals mo_newBoxes mo_newPerson mo_newWidth mo_kept' hDO mo_many mo_taken mo_length hXB hXC hXF hXY hXS hXP hFA hLE, cI G hDO 500 aDO'] → va_S A s.heap H locs → lv_has ls 5 [(0, .ref hMO), (1, .int v1'), (3, .int v3')] → W p l e rm_MO_go s m args below meth c H locs 0 0 (MQ below (gQi G (fun (r : Int32) (u : Int32 × Int32 × Int32 × Int64 × Int32 × (Nat → Int32)) => post r u.1 u.2.1 u.2.2.1 u.2.2.2.1 u.2.2.2.2.1 u.2.2.2.2.2) (fun (u : Int32 × Int32 × Int32 × Int64 × Int32 × (Nat → Int32)) => [cMO hMO mo_thrown mo_size hTM mo_isBoard mo_width mo_height u.1 u.2.1 u.2.2.1 mo_floor mo_goals u.2.2.2.1 mo_newFloor mo_newGoals mo_newBoxes mo_newPerson mo_newWidth u.2.2.2.2.1 hDO mo_many mo_taken mo_length hXB hXC hXF hXY hXS hXP hFA hLE, cI G hDO 500 u.2.2.2.2.2]) A) args s 0 0 A) (F0 m 173 ls [])) : ∀ (n : Nat) (mo_person : Int32) (mo_moves : Int32) (mo_pushes : Int32) (mo_boxes : Int64) (mo_kept : Int32) (aDO : (Nat → Int32)) (v1 : Int32) (v3 : Int32) (v4 : Int32) (H : Heap) (locs : List Loc) (ls : Array Slot), MO_go_133 mo_width mo_height mo_floor k173 post n mo_person mo_moves mo_pushes mo_boxes mo_kept aDO v1 v3 v4 → va_P G.1 gCl [cMO hMO mo_thrown mo_size hTM mo_isBoard mo_width mo_height mo_person mo_moves mo_pushes mo_floor mo_goals mo_boxes mo_newFloor mo_newGoals mo_newBoxes mo_newPerson mo_newWidth mo_kept hDO mo_many mo_taken mo_length hXB hXC hXF hXY hXS hXP hFA hLE, cI G hDO 500 aDO] H → va_D A [cMO hMO mo_thrown mo_size hTM mo_isBoard mo_width mo_height mo_person mo_moves mo_pushes mo_floor mo_goals mo_boxes mo_newFloor mo_newGoals mo_newBoxes mo_newPerson mo_newWidth mo_kept hDO mo_many mo_taken mo_length hXB hXC hXF hXY hXS hXP hFA hLE, cI G hDO 500 aDO] → va_S A s.heap H locs → lv_has ls 5 [(0, .ref hMO), (1, .int v1), (3, .int v3), (4, .int v4)] → W p l e rm_MO_go s m args below meth c H locs 0 0 (MQ below (gQi G (fun (r : Int32) (u : Int32 × Int32 × Int32 × Int64 × Int32 × (Nat → Int32)) => post r u.1 u.2.1 u.2.2.1 u.2.2.2.1 u.2.2.2.2.1 u.2.2.2.2.2) (fun (u : Int32 × Int32 × Int32 × Int64 × Int32 × (Nat → Int32)) => [cMO hMO mo_thrown mo_size hTM mo_isBoard mo_width mo_height u.1 u.2.1 u.2.2.1 mo_floor mo_goals u.2.2.2.1 mo_newFloor mo_newGoals mo_newBoxes mo_newPerson mo_newWidth u.2.2.2.2.1 hDO mo_many mo_taken mo_length hXB hXC hXF hXY hXS hXP hFA hLE, cI G hDO 500 u.2.2.2.2.2]) A) args s 0 0 A) (F0 m 133 ls []) := by
  intro n
  induction n with
  | zero => intro mo_person mo_moves mo_pushes mo_boxes mo_kept aDO v1 v3 v4 H locs ls h _ _ _ _; exact h.elim
  | succ n ih =>
    intro mo_person mo_moves mo_pushes mo_boxes mo_kept aDO v1 v3 v4 H locs ls h hP hD hS hl
    unfold MO_go_133 at h
    refine lv_iload X.1 X.2.1 dX6_go_133 (lv_at hl 3 rfl) ?_
    refine lv_sipush (v := (500 : Int32)) X.1 X.2.1 dX6_go_135 (by decide) ?_
    refine lv_icmp_ge (tgt := 163) X.1 X.2.1 dX6_go_138 (by decide) (fun hc => ?_) (fun hc => ?_)
    · replace h := Eq.mp (if_pos hc) h
      refine lv_aload_n X.1 X.2.1 dX6_go_163 rfl (lv_at hl 0 rfl) ?_
      refine lv_dup X.1 X.2.1 dX6_go_164 rfl ?_
      refine g_get X hP 0 6 17 (v := .int mo_kept) rfl rfl inX6 (by decide) fl_X6_109 rfl dX6_go_165 ?_
      refine lv_iconst (v := (1 : Int32)) X.1 X.2.1 dX6_go_168 (by decide) ?_
      refine lv_isub X.1 X.2.1 dX6_go_169 ?_
      refine lv_topi (fun mo_kept_1 e_mo_kept_1 => ?_)
      replace h := h mo_kept_1 e_mo_kept_1
      refine g_put X hP hD hS 0 6 17 (v := .int mo_kept_1) rfl rfl inX6 tyX6 tyX6_ok nmX6 (by decide) fl_X6_109 rfl rfl rfl rfl (Nat.le_of_ble_eq_true rfl) dX6_go_170 (fun H locs hP hD hS => ?_)
      replace hP : va_P G.1 gCl [cMO hMO mo_thrown mo_size hTM mo_isBoard mo_width mo_height mo_person mo_moves mo_pushes mo_floor mo_goals mo_boxes mo_newFloor mo_newGoals mo_newBoxes mo_newPerson mo_newWidth mo_kept_1 hDO mo_many mo_taken mo_length hXB hXC hXF hXY hXS hXP hFA hLE, cI G hDO 500 aDO] H := hP
      replace hD : va_D A [cMO hMO mo_thrown mo_size hTM mo_isBoard mo_width mo_height mo_person mo_moves mo_pushes mo_floor mo_goals mo_boxes mo_newFloor mo_newGoals mo_newBoxes mo_newPerson mo_newWidth mo_kept_1 hDO mo_many mo_taken mo_length hXB hXC hXF hXY hXS hXP hFA hLE, cI G hDO 500 aDO] := hD
      exact hk173 mo_person mo_moves mo_pushes mo_boxes mo_kept_1 aDO v1 v3 _ _ _ h hP hD hS (lv_sub hl [0, 1, 2] rfl)
    · replace h := Eq.mp (if_neg hc) h
      refine lv_aload_n X.1 X.2.1 dX6_go_141 rfl (lv_at hl 0 rfl) ?_
      refine g_get X hP 0 6 18 (v := .ref hDO) rfl rfl inX6 (by decide) fl_X6_13 rfl dX6_go_142 ?_
      refine lv_iload X.1 X.2.1 dX6_go_145 (lv_at hl 3 rfl) ?_
      refine lv_iconst (v := (1 : Int32)) X.1 X.2.1 dX6_go_147 (by decide) ?_
      refine lv_isub X.1 X.2.1 dX6_go_148 ?_
      refine lv_aload_n X.1 X.2.1 dX6_go_149 rfl (lv_at hl 0 rfl) ?_
      refine g_get X hP 0 6 18 (v := .ref hDO) rfl rfl inX6 (by decide) fl_X6_13 rfl dX6_go_150 ?_
      refine lv_iload X.1 X.2.1 dX6_go_153 (lv_at hl 3 rfl) ?_
      obtain ⟨hin, h⟩ := h
      refine va_iald (D := G.1) X.1 X.2.1 X.k.1 hP 1 0 rfl rfl hin dX6_go_155 ?_
      refine lv_topi (fun x_2 e_x_2 => ?_)
      replace h := h x_2 e_x_2
      obtain ⟨hin, h⟩ := h
      refine g_ist X hP hD hS 1 rfl hin dX6_go_156 (fun aDO_3 e_aDO_3 H locs hP hD hS => ?_)
      replace h := h aDO_3 e_aDO_3
      replace hP : va_P G.1 gCl [cMO hMO mo_thrown mo_size hTM mo_isBoard mo_width mo_height mo_person mo_moves mo_pushes mo_floor mo_goals mo_boxes mo_newFloor mo_newGoals mo_newBoxes mo_newPerson mo_newWidth mo_kept hDO mo_many mo_taken mo_length hXB hXC hXF hXY hXS hXP hFA hLE, cI G hDO 500 aDO_3] H := hP
      replace hD : va_D A [cMO hMO mo_thrown mo_size hTM mo_isBoard mo_width mo_height mo_person mo_moves mo_pushes mo_floor mo_goals mo_boxes mo_newFloor mo_newGoals mo_newBoxes mo_newPerson mo_newWidth mo_kept hDO mo_many mo_taken mo_length hXB hXC hXF hXY hXS hXP hFA hLE, cI G hDO 500 aDO_3] := hD
      refine lv_iinc (v := (v4 + (1 : Int32))) (lv' := [(4, .int (v4 + (1 : Int32))), (0, .ref hMO), (1, .int v1), (3, .int v3)]) X.1 X.2.1 dX6_go_157 hl (k := 3) rfl rfl (by decide) rfl (fun ls hl => ?_)
      refine lv_goto (tgt := 133) X.1 X.2.1 dX6_go_160 (by decide) ?_
      exact ih mo_person mo_moves mo_pushes mo_boxes mo_kept aDO_3 v1 v3 (v4 + (1 : Int32)) _ _ _ h hP hD hS (lv_sub hl [1, 2, 3, 0] rfl)
set_option maxHeartbeats 4000000 in
set_option maxRecDepth 100000 in
theorem s_MO_go_173 {p : Program} {l : Launch} {e : Env} {s : State} {m : MethodId} {args : Array Value} {below : List Frame} {meth : Method} {c : Code} {G : gEnv} {A : Nat → Prop} {hMO : Nat} {hTM : Nat} {hDO : Nat} {hXB : Nat} {hXC : Nat} {hXF : Nat} {hXY : Nat} {hXS : Nat} {hXP : Nat} {hFA : Nat} {hLE : Nat} {mo_thrown : Int32} {mo_size : Int32} {mo_isBoard : Int32} {mo_goals : Int64} {mo_newFloor : Int64} {mo_newGoals : Int64} {mo_newBoxes : Int64} {mo_newPerson : Int32} {mo_newWidth : Int32} {mo_many : Int32} {mo_taken : Int32} {mo_length : Int32} {mo_width : Int32} {mo_height : Int32} {mo_floor : Int64} {post : Int32 → Int32 → Int32 → Int32 → Int64 → Int32 → (Nat → Int32) → Prop} (X : gX p m meth c cX6_go 5 RX6 (some .int) s args G A)  : ∀ (mo_person : Int32) (mo_moves : Int32) (mo_pushes : Int32) (mo_boxes : Int64) (mo_kept : Int32) (aDO : (Nat → Int32)) (v1 : Int32) (v3 : Int32) (H : Heap) (locs : List Loc) (ls : Array Slot), MO_go_173 mo_width mo_height mo_floor post mo_person mo_moves mo_pushes mo_boxes mo_kept aDO v1 v3 → va_P G.1 gCl [cMO hMO mo_thrown mo_size hTM mo_isBoard mo_width mo_height mo_person mo_moves mo_pushes mo_floor mo_goals mo_boxes mo_newFloor mo_newGoals mo_newBoxes mo_newPerson mo_newWidth mo_kept hDO mo_many mo_taken mo_length hXB hXC hXF hXY hXS hXP hFA hLE, cI G hDO 500 aDO] H → va_D A [cMO hMO mo_thrown mo_size hTM mo_isBoard mo_width mo_height mo_person mo_moves mo_pushes mo_floor mo_goals mo_boxes mo_newFloor mo_newGoals mo_newBoxes mo_newPerson mo_newWidth mo_kept hDO mo_many mo_taken mo_length hXB hXC hXF hXY hXS hXP hFA hLE, cI G hDO 500 aDO] → va_S A s.heap H locs → lv_has ls 5 [(0, .ref hMO), (1, .int v1), (3, .int v3)] → W p l e rm_MO_go s m args below meth c H locs 0 0 (MQ below (gQi G (fun (r : Int32) (u : Int32 × Int32 × Int32 × Int64 × Int32 × (Nat → Int32)) => post r u.1 u.2.1 u.2.2.1 u.2.2.2.1 u.2.2.2.2.1 u.2.2.2.2.2) (fun (u : Int32 × Int32 × Int32 × Int64 × Int32 × (Nat → Int32)) => [cMO hMO mo_thrown mo_size hTM mo_isBoard mo_width mo_height u.1 u.2.1 u.2.2.1 mo_floor mo_goals u.2.2.2.1 mo_newFloor mo_newGoals mo_newBoxes mo_newPerson mo_newWidth u.2.2.2.2.1 hDO mo_many mo_taken mo_length hXB hXC hXF hXY hXS hXP hFA hLE, cI G hDO 500 u.2.2.2.2.2]) A) args s 0 0 A) (F0 m 173 ls []) := by
  intro mo_person mo_moves mo_pushes mo_boxes mo_kept aDO v1 v3 H locs ls h hP hD hS hl
  unfold MO_go_173 at h
  refine lv_aload_n X.1 X.2.1 dX6_go_173 rfl (lv_at hl 0 rfl) ?_
  refine g_get X hP 0 6 18 (v := .ref hDO) rfl rfl inX6 (by decide) fl_X6_13 rfl dX6_go_174 ?_
  refine lv_aload_n X.1 X.2.1 dX6_go_177 rfl (lv_at hl 0 rfl) ?_
  refine g_get X hP 0 6 17 (v := .int mo_kept) rfl rfl inX6 (by decide) fl_X6_109 rfl dX6_go_178 ?_
  refine lv_iload_n X.1 X.2.1 dX6_go_181 rfl (lv_at hl 1 rfl) ?_
  refine lv_iconst (v := (4 : Int32)) X.1 X.2.1 dX6_go_182 (by decide) ?_
  refine lv_iload_n X.1 X.2.1 dX6_go_183 rfl (lv_at hl 2 rfl) ?_
  refine lv_iconst (v := (1 : Int32)) X.1 X.2.1 dX6_go_184 (by decide) ?_
  refine lv_isub X.1 X.2.1 dX6_go_185 ?_
  refine lv_imul X.1 X.2.1 dX6_go_186 ?_
  refine lv_iadd X.1 X.2.1 dX6_go_187 ?_
  refine lv_topi (fun x_1 e_x_1 => ?_)
  replace h := h x_1 e_x_1
  obtain ⟨hin, h⟩ := h
  refine g_ist X hP hD hS 1 rfl hin dX6_go_188 (fun aDO_2 e_aDO_2 H locs hP hD hS => ?_)
  replace h := h aDO_2 e_aDO_2
  replace hP : va_P G.1 gCl [cMO hMO mo_thrown mo_size hTM mo_isBoard mo_width mo_height mo_person mo_moves mo_pushes mo_floor mo_goals mo_boxes mo_newFloor mo_newGoals mo_newBoxes mo_newPerson mo_newWidth mo_kept hDO mo_many mo_taken mo_length hXB hXC hXF hXY hXS hXP hFA hLE, cI G hDO 500 aDO_2] H := hP
  replace hD : va_D A [cMO hMO mo_thrown mo_size hTM mo_isBoard mo_width mo_height mo_person mo_moves mo_pushes mo_floor mo_goals mo_boxes mo_newFloor mo_newGoals mo_newBoxes mo_newPerson mo_newWidth mo_kept hDO mo_many mo_taken mo_length hXB hXC hXF hXY hXS hXP hFA hLE, cI G hDO 500 aDO_2] := hD
  refine lv_aload_n X.1 X.2.1 dX6_go_189 rfl (lv_at hl 0 rfl) ?_
  refine lv_dup X.1 X.2.1 dX6_go_190 rfl ?_
  refine g_get X hP 0 6 17 (v := .int mo_kept) rfl rfl inX6 (by decide) fl_X6_109 rfl dX6_go_191 ?_
  refine lv_iconst (v := (1 : Int32)) X.1 X.2.1 dX6_go_194 (by decide) ?_
  refine lv_iadd X.1 X.2.1 dX6_go_195 ?_
  refine lv_topi (fun mo_kept_3 e_mo_kept_3 => ?_)
  replace h := h mo_kept_3 e_mo_kept_3
  refine g_put X hP hD hS 0 6 17 (v := .int mo_kept_3) rfl rfl inX6 tyX6 tyX6_ok nmX6 (by decide) fl_X6_109 rfl rfl rfl rfl (Nat.le_of_ble_eq_true rfl) dX6_go_196 (fun H locs hP hD hS => ?_)
  replace hP : va_P G.1 gCl [cMO hMO mo_thrown mo_size hTM mo_isBoard mo_width mo_height mo_person mo_moves mo_pushes mo_floor mo_goals mo_boxes mo_newFloor mo_newGoals mo_newBoxes mo_newPerson mo_newWidth mo_kept_3 hDO mo_many mo_taken mo_length hXB hXC hXF hXY hXS hXP hFA hLE, cI G hDO 500 aDO_2] H := hP
  replace hD : va_D A [cMO hMO mo_thrown mo_size hTM mo_isBoard mo_width mo_height mo_person mo_moves mo_pushes mo_floor mo_goals mo_boxes mo_newFloor mo_newGoals mo_newBoxes mo_newPerson mo_newWidth mo_kept_3 hDO mo_many mo_taken mo_length hXB hXC hXF hXY hXS hXP hFA hLE, cI G hDO 500 aDO_2] := hD
  refine lv_iload_n X.1 X.2.1 dX6_go_199 rfl (lv_at hl 2 rfl) ?_
  exact g_iret X (mo_person, mo_moves, mo_pushes, mo_boxes, mo_kept_3, aDO_2) h hP hD hS dX6_go_200
set_option maxHeartbeats 4000000 in
set_option maxRecDepth 100000 in
theorem s_MO_go_93 {p : Program} {l : Launch} {e : Env} {s : State} {m : MethodId} {args : Array Value} {below : List Frame} {meth : Method} {c : Code} {G : gEnv} {A : Nat → Prop} {hMO : Nat} {hTM : Nat} {hDO : Nat} {hXB : Nat} {hXC : Nat} {hXF : Nat} {hXY : Nat} {hXS : Nat} {hXP : Nat} {hFA : Nat} {hLE : Nat} {mo_thrown : Int32} {mo_size : Int32} {mo_isBoard : Int32} {mo_goals : Int64} {mo_newFloor : Int64} {mo_newGoals : Int64} {mo_newBoxes : Int64} {mo_newPerson : Int32} {mo_newWidth : Int32} {mo_many : Int32} {mo_taken : Int32} {mo_length : Int32} {mo_width : Int32} {mo_height : Int32} {mo_floor : Int64} {post : Int32 → Int32 → Int32 → Int32 → Int64 → Int32 → (Nat → Int32) → Prop} (X : gX p m meth c cX6_go 5 RX6 (some .int) s args G A)  : ∀ (mo_person : Int32) (mo_moves : Int32) (mo_pushes : Int32) (mo_boxes : Int64) (mo_kept : Int32) (aDO : (Nat → Int32)) (v1 : Int32) (v2 : Int32) (v3 : Int32) (H : Heap) (locs : List Loc) (ls : Array Slot), MO_go_93 mo_width mo_height mo_floor post mo_person mo_moves mo_pushes mo_boxes mo_kept aDO v1 v2 v3 → va_P G.1 gCl [cMO hMO mo_thrown mo_size hTM mo_isBoard mo_width mo_height mo_person mo_moves mo_pushes mo_floor mo_goals mo_boxes mo_newFloor mo_newGoals mo_newBoxes mo_newPerson mo_newWidth mo_kept hDO mo_many mo_taken mo_length hXB hXC hXF hXY hXS hXP hFA hLE, cI G hDO 500 aDO] H → va_D A [cMO hMO mo_thrown mo_size hTM mo_isBoard mo_width mo_height mo_person mo_moves mo_pushes mo_floor mo_goals mo_boxes mo_newFloor mo_newGoals mo_newBoxes mo_newPerson mo_newWidth mo_kept hDO mo_many mo_taken mo_length hXB hXC hXF hXY hXS hXP hFA hLE, cI G hDO 500 aDO] → va_S A s.heap H locs → lv_has ls 5 [(0, .ref hMO), (1, .int v1), (2, .int v2), (3, .int v3)] → W p l e rm_MO_go s m args below meth c H locs 0 0 (MQ below (gQi G (fun (r : Int32) (u : Int32 × Int32 × Int32 × Int64 × Int32 × (Nat → Int32)) => post r u.1 u.2.1 u.2.2.1 u.2.2.2.1 u.2.2.2.2.1 u.2.2.2.2.2) (fun (u : Int32 × Int32 × Int32 × Int64 × Int32 × (Nat → Int32)) => [cMO hMO mo_thrown mo_size hTM mo_isBoard mo_width mo_height u.1 u.2.1 u.2.2.1 mo_floor mo_goals u.2.2.2.1 mo_newFloor mo_newGoals mo_newBoxes mo_newPerson mo_newWidth u.2.2.2.2.1 hDO mo_many mo_taken mo_length hXB hXC hXF hXY hXS hXP hFA hLE, cI G hDO 500 u.2.2.2.2.2]) A) args s 0 0 A) (F0 m 93 ls []) := by
  intro mo_person mo_moves mo_pushes mo_boxes mo_kept aDO v1 v2 v3 H locs ls h hP hD hS hl
  unfold MO_go_93 at h
  refine lv_aload_n X.1 X.2.1 dX6_go_93 rfl (lv_at hl 0 rfl) ?_
  refine lv_iload_n X.1 X.2.1 dX6_go_94 rfl (lv_at hl 2 rfl) ?_
  refine g_put X hP hD hS 0 6 6 (v := .int v2) rfl rfl inX6 tyX6 tyX6_ok nmX6 (by decide) fl_X6_100 rfl rfl rfl rfl (Nat.le_of_ble_eq_true rfl) dX6_go_95 (fun H locs hP hD hS => ?_)
  replace hP : va_P G.1 gCl [cMO hMO mo_thrown mo_size hTM mo_isBoard mo_width mo_height v2 mo_moves mo_pushes mo_floor mo_goals mo_boxes mo_newFloor mo_newGoals mo_newBoxes mo_newPerson mo_newWidth mo_kept hDO mo_many mo_taken mo_length hXB hXC hXF hXY hXS hXP hFA hLE, cI G hDO 500 aDO] H := hP
  replace hD : va_D A [cMO hMO mo_thrown mo_size hTM mo_isBoard mo_width mo_height v2 mo_moves mo_pushes mo_floor mo_goals mo_boxes mo_newFloor mo_newGoals mo_newBoxes mo_newPerson mo_newWidth mo_kept hDO mo_many mo_taken mo_length hXB hXC hXF hXY hXS hXP hFA hLE, cI G hDO 500 aDO] := hD
  refine lv_aload_n X.1 X.2.1 dX6_go_98 rfl (lv_at hl 0 rfl) ?_
  refine lv_dup X.1 X.2.1 dX6_go_99 rfl ?_
  refine g_get X hP 0 6 7 (v := .int mo_moves) rfl rfl inX6 (by decide) fl_X6_103 rfl dX6_go_100 ?_
  refine lv_iconst (v := (1 : Int32)) X.1 X.2.1 dX6_go_103 (by decide) ?_
  refine lv_iadd X.1 X.2.1 dX6_go_104 ?_
  refine lv_topi (fun mo_moves_1 e_mo_moves_1 => ?_)
  replace h := h mo_moves_1 e_mo_moves_1
  refine g_put X hP hD hS 0 6 7 (v := .int mo_moves_1) rfl rfl inX6 tyX6 tyX6_ok nmX6 (by decide) fl_X6_103 rfl rfl rfl rfl (Nat.le_of_ble_eq_true rfl) dX6_go_105 (fun H locs hP hD hS => ?_)
  replace hP : va_P G.1 gCl [cMO hMO mo_thrown mo_size hTM mo_isBoard mo_width mo_height v2 mo_moves_1 mo_pushes mo_floor mo_goals mo_boxes mo_newFloor mo_newGoals mo_newBoxes mo_newPerson mo_newWidth mo_kept hDO mo_many mo_taken mo_length hXB hXC hXF hXY hXS hXP hFA hLE, cI G hDO 500 aDO] H := hP
  replace hD : va_D A [cMO hMO mo_thrown mo_size hTM mo_isBoard mo_width mo_height v2 mo_moves_1 mo_pushes mo_floor mo_goals mo_boxes mo_newFloor mo_newGoals mo_newBoxes mo_newPerson mo_newWidth mo_kept hDO mo_many mo_taken mo_length hXB hXC hXF hXY hXS hXP hFA hLE, cI G hDO 500 aDO] := hD
  refine lv_aload_n X.1 X.2.1 dX6_go_108 rfl (lv_at hl 0 rfl) ?_
  refine lv_dup X.1 X.2.1 dX6_go_109 rfl ?_
  refine g_get X hP 0 6 8 (v := .int mo_pushes) rfl rfl inX6 (by decide) fl_X6_106 rfl dX6_go_110 ?_
  refine lv_iload_n X.1 X.2.1 dX6_go_113 rfl (lv_at hl 3 rfl) ?_
  refine lv_iconst (v := (1 : Int32)) X.1 X.2.1 dX6_go_114 (by decide) ?_
  refine lv_isub X.1 X.2.1 dX6_go_115 ?_
  refine lv_iadd X.1 X.2.1 dX6_go_116 ?_
  refine lv_topi (fun mo_pushes_2 e_mo_pushes_2 => ?_)
  replace h := h mo_pushes_2 e_mo_pushes_2
  refine g_put X hP hD hS 0 6 8 (v := .int mo_pushes_2) rfl rfl inX6 tyX6 tyX6_ok nmX6 (by decide) fl_X6_106 rfl rfl rfl rfl (Nat.le_of_ble_eq_true rfl) dX6_go_117 (fun H locs hP hD hS => ?_)
  replace hP : va_P G.1 gCl [cMO hMO mo_thrown mo_size hTM mo_isBoard mo_width mo_height v2 mo_moves_1 mo_pushes_2 mo_floor mo_goals mo_boxes mo_newFloor mo_newGoals mo_newBoxes mo_newPerson mo_newWidth mo_kept hDO mo_many mo_taken mo_length hXB hXC hXF hXY hXS hXP hFA hLE, cI G hDO 500 aDO] H := hP
  replace hD : va_D A [cMO hMO mo_thrown mo_size hTM mo_isBoard mo_width mo_height v2 mo_moves_1 mo_pushes_2 mo_floor mo_goals mo_boxes mo_newFloor mo_newGoals mo_newBoxes mo_newPerson mo_newWidth mo_kept hDO mo_many mo_taken mo_length hXB hXC hXF hXY hXS hXP hFA hLE, cI G hDO 500 aDO] := hD
  refine lv_aload_n X.1 X.2.1 dX6_go_120 rfl (lv_at hl 0 rfl) ?_
  refine g_get X hP 0 6 17 (v := .int mo_kept) rfl rfl inX6 (by decide) fl_X6_109 rfl dX6_go_121 ?_
  refine lv_sipush (v := (500 : Int32)) X.1 X.2.1 dX6_go_124 (by decide) ?_
  refine lv_icmp_ne (tgt := 173) X.1 X.2.1 dX6_go_127 (by decide) (fun hc => ?_) (fun hc => ?_)
  · replace h := Eq.mp (if_neg hc) h
    exact s_MO_go_173 X  v2 mo_moves_1 mo_pushes_2 mo_boxes mo_kept aDO v1 v3 _ _ _ h hP hD hS (lv_sub hl [0, 1, 3] rfl)
  · replace h := Eq.mp (if_pos hc) h
    refine lv_iconst (v := (1 : Int32)) X.1 X.2.1 dX6_go_130 (by decide) ?_
    refine lv_istore (lv' := [(4, .int (1 : Int32)), (0, .ref hMO), (1, .int v1), (2, .int v2), (3, .int v3)]) X.1 X.2.1 dX6_go_131 hl (by decide) rfl (fun ls hl => ?_)
    obtain ⟨n', h⟩ := h
    exact s_MO_go_133 X (fun mo_person' mo_moves' mo_pushes' mo_boxes' mo_kept' aDO' v1' v3' H' locs' ls' h' hP' hD' hS' hl' => s_MO_go_173 X  mo_person' mo_moves' mo_pushes' mo_boxes' mo_kept' aDO' v1' v3' H' locs' ls' h' hP' hD' hS' hl') n' v2 mo_moves_1 mo_pushes_2 mo_boxes mo_kept aDO v1 v3 (1 : Int32) _ _ _ h hP hD hS (lv_sub hl [1, 2, 4, 0] rfl)
set_option maxHeartbeats 4000000 in
set_option maxRecDepth 100000 in
theorem c_MO_go (l : Launch) (G : gEnv) (hMO : Nat) (hTM : Nat) (hDO : Nat) (hXB : Nat) (hXC : Nat) (hXF : Nat) (hXY : Nat) (hXS : Nat) (hXP : Nat) (hFA : Nat) (hLE : Nat) (mo_thrown : Int32) (mo_size : Int32) (mo_isBoard : Int32) (mo_width : Int32) (mo_height : Int32) (mo_person : Int32) (mo_moves : Int32) (mo_pushes : Int32) (mo_floor : Int64) (mo_goals : Int64) (mo_boxes : Int64) (mo_newFloor : Int64) (mo_newGoals : Int64) (mo_newBoxes : Int64) (mo_newPerson : Int32) (mo_newWidth : Int32) (mo_kept : Int32) (mo_many : Int32) (mo_taken : Int32) (mo_length : Int32) (aDO : Nat → Int32) (v1 : Int32) (post : Int32 → Int32 → Int32 → Int32 → Int64 → Int32 → (Nat → Int32) → Prop) (h : MO_go mo_width mo_height mo_floor mo_person mo_moves mo_pushes mo_boxes mo_kept aDO v1 post) (sz : Nat) : Met l yX6_go (Cond.code yX6_go cX6_go 5 (some .int) :: wAll) (rm_MO_go) (gPc G [.ref hMO, .int v1] [cMO hMO mo_thrown mo_size hTM mo_isBoard mo_width mo_height mo_person mo_moves mo_pushes mo_floor mo_goals mo_boxes mo_newFloor mo_newGoals mo_newBoxes mo_newPerson mo_newWidth mo_kept hDO mo_many mo_taken mo_length hXB hXC hXF hXY hXS hXP hFA hLE, cI G hDO 500 aDO] sz) (gQi G (fun (r : Int32) (u : Int32 × Int32 × Int32 × Int64 × Int32 × (Nat → Int32)) => post r u.1 u.2.1 u.2.2.1 u.2.2.2.1 u.2.2.2.2.1 u.2.2.2.2.2) (fun (u : Int32 × Int32 × Int32 × Int64 × Int32 × (Nat → Int32)) => [cMO hMO mo_thrown mo_size hTM mo_isBoard mo_width mo_height u.1 u.2.1 u.2.2.1 mo_floor mo_goals u.2.2.2.1 mo_newFloor mo_newGoals mo_newBoxes mo_newPerson mo_newWidth u.2.2.2.2.1 hDO mo_many mo_taken mo_length hXB hXC hXF hXY hXS hXP hFA hLE, cI G hDO 500 u.2.2.2.2.2]) (va_A [cMO hMO mo_thrown mo_size hTM mo_isBoard mo_width mo_height mo_person mo_moves mo_pushes mo_floor mo_goals mo_boxes mo_newFloor mo_newGoals mo_newBoxes mo_newPerson mo_newWidth mo_kept hDO mo_many mo_taken mo_length hXB hXC hXF hXY hXS hXP hFA hLE, cI G hDO 500 aDO] sz)) 0 0 (va_A [cMO hMO mo_thrown mo_size hTM mo_isBoard mo_width mo_height mo_person mo_moves mo_pushes mo_floor mo_goals mo_boxes mo_newFloor mo_newGoals mo_newBoxes mo_newPerson mo_newWidth mo_kept hDO mo_many mo_taken mo_length hXB hXC hXF hXY hXS hXP hFA hLE, cI G hDO 500 aDO] sz) := by
  refine Met.ofW (cc := cX6_go) (maxL := 5) (ret := (some .int)) (by decide) rfl ?_
  intro p e s m args below meth c s₁ B hml hv
  obtain ⟨rfl, hsz, hP, hK, hD0⟩ := hv
  subst hsz
  have X := gX.ofB (ws := [cMO hMO mo_thrown mo_size hTM mo_isBoard mo_width mo_height mo_person mo_moves mo_pushes mo_floor mo_goals mo_boxes mo_newFloor mo_newGoals mo_newBoxes mo_newPerson mo_newWidth mo_kept hDO mo_many mo_taken mo_length hXB hXC hXF hXY hXS hXP hFA hLE, cI G hDO 500 aDO]) B hml hK hD0
  have hD := hD0.self (sz := s.heap.size)
  generalize hAe : va_A [cMO hMO mo_thrown mo_size hTM mo_isBoard mo_width mo_height mo_person mo_moves mo_pushes mo_floor mo_goals mo_boxes mo_newFloor mo_newGoals mo_newBoxes mo_newPerson mo_newWidth mo_kept hDO mo_many mo_taken mo_length hXB hXC hXF hXY hXS hXP hFA hLE, cI G hDO 500 aDO] s.heap.size = A at X hD ⊢
  have hS : va_S A s.heap s.heap [] := va_S.rf
  have hl := lv_entry ([.ref hMO, .int v1]) (n := 5) (Nat.le_of_ble_eq_true rfl)
  rw [lg_entry_eq]
  generalize (lg_sl ([.ref hMO, .int v1]) ++ List.replicate (5 - (lg_sl ([.ref hMO, .int v1])).length) Slot.unset).toArray = ls at hl ⊢
  have hl : lv_has ls 5 [(0, .ref hMO), (1, .int v1)] := hl
  dsimp only [headSpec]
  unfold MO_go at h
  refine lv_aload_n X.1 X.2.1 dX6_go_0 rfl (lv_at hl 0 rfl) ?_
  refine lv_aload_n X.1 X.2.1 dX6_go_1 rfl (lv_at hl 0 rfl) ?_
  refine g_get X hP 0 6 6 (v := .int mo_person) rfl rfl inX6 (by decide) fl_X6_100 rfl dX6_go_2 ?_
  refine lv_iload_n X.1 X.2.1 dX6_go_5 rfl (lv_at hl 1 rfl) ?_
  refine g_ci (wr := [cI G hDO 500 aDO]) X [0] [1] (g_rV (As := [.int mo_person, .int v1]) (rest := []) X (c_MO_beside l G hMO hTM hDO hXB hXC hXF hXY hXS hXP hFA hLE mo_thrown mo_size mo_isBoard mo_width mo_height mo_person mo_moves mo_pushes mo_floor mo_goals mo_boxes mo_newFloor mo_newGoals mo_newBoxes mo_newPerson mo_newWidth mo_kept mo_many mo_taken mo_length mo_person v1 _ h _) lk_X6_112 rfl rfl ⟨Nat.le_of_ble_eq_true rfl, Nat.le_of_ble_eq_true rfl⟩ hP hD hS [0] rfl rfl 0 6 rfl rfl rfl hl.1 rfl (Nat.le_of_ble_eq_true rfl) dX6_go_6 ⟨Nat.le_of_ble_eq_true rfl, Nat.le_of_ble_eq_true rfl⟩) hP hD hS rfl rfl rfl (by decide) (fun r_1 u H locs h hP hD hS => ?_)
  try dsimp only at h
  replace hP := hP.sub (ws' := [cMO hMO mo_thrown mo_size hTM mo_isBoard mo_width mo_height mo_person mo_moves mo_pushes mo_floor mo_goals mo_boxes mo_newFloor mo_newGoals mo_newBoxes mo_newPerson mo_newWidth mo_kept hDO mo_many mo_taken mo_length hXB hXC hXF hXY hXS hXP hFA hLE, cI G hDO 500 aDO]) [1, 0] rfl
  replace hD := hD.sub (ws' := [cMO hMO mo_thrown mo_size hTM mo_isBoard mo_width mo_height mo_person mo_moves mo_pushes mo_floor mo_goals mo_boxes mo_newFloor mo_newGoals mo_newBoxes mo_newPerson mo_newWidth mo_kept hDO mo_many mo_taken mo_length hXB hXC hXF hXY hXS hXP hFA hLE, cI G hDO 500 aDO]) [1, 0] rfl rfl
  refine lv_istore_n (lv' := [(2, .int r_1), (0, .ref hMO), (1, .int v1)]) X.1 X.2.1 dX6_go_9 rfl hl (by decide) rfl (fun ls hl => ?_)
  refine lv_aload_n X.1 X.2.1 dX6_go_10 rfl (lv_at hl 1 rfl) ?_
  refine g_get X hP 0 6 9 (v := .long mo_floor) rfl rfl inX6 (by decide) fl_X6_87 rfl dX6_go_11 ?_
  refine lv_iload_n X.1 X.2.1 dX6_go_14 rfl (lv_at hl 0 rfl) ?_
  refine g_ci (wr := [cMO hMO mo_thrown mo_size hTM mo_isBoard mo_width mo_height mo_person mo_moves mo_pushes mo_floor mo_goals mo_boxes mo_newFloor mo_newGoals mo_newBoxes mo_newPerson mo_newWidth mo_kept hDO mo_many mo_taken mo_length hXB hXC hXF hXY hXS hXP hFA hLE, cI G hDO 500 aDO]) X [] [0, 1] (g_rS (As := [.long mo_floor, .int r_1]) (rest := []) X (c_MO_has l G mo_floor r_1 _ h _) lk_X6_90 rfl rfl ⟨Nat.le_of_ble_eq_true rfl, Nat.le_of_ble_eq_true rfl⟩ hP hD hS [] rfl rfl rfl hl.1 rfl (Nat.le_of_ble_eq_true rfl) dX6_go_15 ⟨Nat.le_of_ble_eq_true rfl, Nat.le_of_ble_eq_true rfl⟩) hP hD hS rfl rfl rfl (by decide) (fun r_2 u H locs h hP hD hS => ?_)
  try dsimp only at h
  replace hP := hP.sub (ws' := [cMO hMO mo_thrown mo_size hTM mo_isBoard mo_width mo_height mo_person mo_moves mo_pushes mo_floor mo_goals mo_boxes mo_newFloor mo_newGoals mo_newBoxes mo_newPerson mo_newWidth mo_kept hDO mo_many mo_taken mo_length hXB hXC hXF hXY hXS hXP hFA hLE, cI G hDO 500 aDO]) [0, 1] rfl
  replace hD := hD.sub (ws' := [cMO hMO mo_thrown mo_size hTM mo_isBoard mo_width mo_height mo_person mo_moves mo_pushes mo_floor mo_goals mo_boxes mo_newFloor mo_newGoals mo_newBoxes mo_newPerson mo_newWidth mo_kept hDO mo_many mo_taken mo_length hXB hXC hXF hXY hXS hXP hFA hLE, cI G hDO 500 aDO]) [0, 1] rfl rfl
  refine lv_if_ne (tgt := 23) X.1 X.2.1 dX6_go_18 (by decide) (fun hc => ?_) (fun hc => ?_)
  · replace h := Eq.mp (if_neg hc) h
    refine lv_iconst (v := (1 : Int32)) X.1 X.2.1 dX6_go_23 (by decide) ?_
    refine lv_istore_n (lv' := [(3, .int (1 : Int32)), (2, .int r_1), (0, .ref hMO), (1, .int v1)]) X.1 X.2.1 dX6_go_24 rfl hl (by decide) rfl (fun ls hl => ?_)
    refine lv_aload_n X.1 X.2.1 dX6_go_25 rfl (lv_at hl 2 rfl) ?_
    refine g_get X hP 0 6 11 (v := .long mo_boxes) rfl rfl inX6 (by decide) fl_X6_97 rfl dX6_go_26 ?_
    refine lv_iload_n X.1 X.2.1 dX6_go_29 rfl (lv_at hl 1 rfl) ?_
    refine g_ci (wr := [cMO hMO mo_thrown mo_size hTM mo_isBoard mo_width mo_height mo_person mo_moves mo_pushes mo_floor mo_goals mo_boxes mo_newFloor mo_newGoals mo_newBoxes mo_newPerson mo_newWidth mo_kept hDO mo_many mo_taken mo_length hXB hXC hXF hXY hXS hXP hFA hLE, cI G hDO 500 aDO]) X [] [0, 1] (g_rS (As := [.long mo_boxes, .int r_1]) (rest := []) X (c_MO_has l G mo_boxes r_1 _ h _) lk_X6_90 rfl rfl ⟨Nat.le_of_ble_eq_true rfl, Nat.le_of_ble_eq_true rfl⟩ hP hD hS [] rfl rfl rfl hl.1 rfl (Nat.le_of_ble_eq_true rfl) dX6_go_30 ⟨Nat.le_of_ble_eq_true rfl, Nat.le_of_ble_eq_true rfl⟩) hP hD hS rfl rfl rfl (by decide) (fun r_3 u H locs h hP hD hS => ?_)
    try dsimp only at h
    replace hP := hP.sub (ws' := [cMO hMO mo_thrown mo_size hTM mo_isBoard mo_width mo_height mo_person mo_moves mo_pushes mo_floor mo_goals mo_boxes mo_newFloor mo_newGoals mo_newBoxes mo_newPerson mo_newWidth mo_kept hDO mo_many mo_taken mo_length hXB hXC hXF hXY hXS hXP hFA hLE, cI G hDO 500 aDO]) [0, 1] rfl
    replace hD := hD.sub (ws' := [cMO hMO mo_thrown mo_size hTM mo_isBoard mo_width mo_height mo_person mo_moves mo_pushes mo_floor mo_goals mo_boxes mo_newFloor mo_newGoals mo_newBoxes mo_newPerson mo_newWidth mo_kept hDO mo_many mo_taken mo_length hXB hXC hXF hXY hXS hXP hFA hLE, cI G hDO 500 aDO]) [0, 1] rfl rfl
    refine lv_if_eq (tgt := 93) X.1 X.2.1 dX6_go_33 (by decide) (fun hc => ?_) (fun hc => ?_)
    · replace h := Eq.mp (if_pos hc) h
      exact s_MO_go_93 X  mo_person mo_moves mo_pushes mo_boxes mo_kept aDO v1 r_1 (1 : Int32) _ _ _ h hP hD hS (lv_sub hl [2, 3, 1, 0] rfl)
    · replace h := Eq.mp (if_neg hc) h
      refine lv_aload_n X.1 X.2.1 dX6_go_36 rfl (lv_at hl 2 rfl) ?_
      refine lv_iload_n X.1 X.2.1 dX6_go_37 rfl (lv_at hl 1 rfl) ?_
      refine lv_iload_n X.1 X.2.1 dX6_go_38 rfl (lv_at hl 3 rfl) ?_
      refine g_ci (wr := [cI G hDO 500 aDO]) X [0] [1] (g_rV (As := [.int r_1, .int v1]) (rest := []) X (c_MO_beside l G hMO hTM hDO hXB hXC hXF hXY hXS hXP hFA hLE mo_thrown mo_size mo_isBoard mo_width mo_height mo_person mo_moves mo_pushes mo_floor mo_goals mo_boxes mo_newFloor mo_newGoals mo_newBoxes mo_newPerson mo_newWidth mo_kept mo_many mo_taken mo_length r_1 v1 _ h _) lk_X6_112 rfl rfl ⟨Nat.le_of_ble_eq_true rfl, Nat.le_of_ble_eq_true rfl⟩ hP hD hS [0] rfl rfl 0 6 rfl rfl rfl hl.1 rfl (Nat.le_of_ble_eq_true rfl) dX6_go_39 ⟨Nat.le_of_ble_eq_true rfl, Nat.le_of_ble_eq_true rfl⟩) hP hD hS rfl rfl rfl (by decide) (fun r_4 u H locs h hP hD hS => ?_)
      try dsimp only at h
      replace hP := hP.sub (ws' := [cMO hMO mo_thrown mo_size hTM mo_isBoard mo_width mo_height mo_person mo_moves mo_pushes mo_floor mo_goals mo_boxes mo_newFloor mo_newGoals mo_newBoxes mo_newPerson mo_newWidth mo_kept hDO mo_many mo_taken mo_length hXB hXC hXF hXY hXS hXP hFA hLE, cI G hDO 500 aDO]) [1, 0] rfl
      replace hD := hD.sub (ws' := [cMO hMO mo_thrown mo_size hTM mo_isBoard mo_width mo_height mo_person mo_moves mo_pushes mo_floor mo_goals mo_boxes mo_newFloor mo_newGoals mo_newBoxes mo_newPerson mo_newWidth mo_kept hDO mo_many mo_taken mo_length hXB hXC hXF hXY hXS hXP hFA hLE, cI G hDO 500 aDO]) [1, 0] rfl rfl
      refine lv_istore (lv' := [(4, .int r_4), (3, .int (1 : Int32)), (2, .int r_1), (0, .ref hMO), (1, .int v1)]) X.1 X.2.1 dX6_go_42 hl (by decide) rfl (fun ls hl => ?_)
      refine lv_aload_n X.1 X.2.1 dX6_go_44 rfl (lv_at hl 3 rfl) ?_
      refine g_get X hP 0 6 9 (v := .long mo_floor) rfl rfl inX6 (by decide) fl_X6_87 rfl dX6_go_45 ?_
      refine lv_iload X.1 X.2.1 dX6_go_48 (lv_at hl 0 rfl) ?_
      refine g_ci (wr := [cMO hMO mo_thrown mo_size hTM mo_isBoard mo_width mo_height mo_person mo_moves mo_pushes mo_floor mo_goals mo_boxes mo_newFloor mo_newGoals mo_newBoxes mo_newPerson mo_newWidth mo_kept hDO mo_many mo_taken mo_length hXB hXC hXF hXY hXS hXP hFA hLE, cI G hDO 500 aDO]) X [] [0, 1] (g_rS (As := [.long mo_floor, .int r_4]) (rest := []) X (c_MO_has l G mo_floor r_4 _ h _) lk_X6_90 rfl rfl ⟨Nat.le_of_ble_eq_true rfl, Nat.le_of_ble_eq_true rfl⟩ hP hD hS [] rfl rfl rfl hl.1 rfl (Nat.le_of_ble_eq_true rfl) dX6_go_50 ⟨Nat.le_of_ble_eq_true rfl, Nat.le_of_ble_eq_true rfl⟩) hP hD hS rfl rfl rfl (by decide) (fun r_5 u H locs h hP hD hS => ?_)
      try dsimp only at h
      replace hP := hP.sub (ws' := [cMO hMO mo_thrown mo_size hTM mo_isBoard mo_width mo_height mo_person mo_moves mo_pushes mo_floor mo_goals mo_boxes mo_newFloor mo_newGoals mo_newBoxes mo_newPerson mo_newWidth mo_kept hDO mo_many mo_taken mo_length hXB hXC hXF hXY hXS hXP hFA hLE, cI G hDO 500 aDO]) [0, 1] rfl
      replace hD := hD.sub (ws' := [cMO hMO mo_thrown mo_size hTM mo_isBoard mo_width mo_height mo_person mo_moves mo_pushes mo_floor mo_goals mo_boxes mo_newFloor mo_newGoals mo_newBoxes mo_newPerson mo_newWidth mo_kept hDO mo_many mo_taken mo_length hXB hXC hXF hXY hXS hXP hFA hLE, cI G hDO 500 aDO]) [0, 1] rfl rfl
      refine lv_if_eq (tgt := 68) X.1 X.2.1 dX6_go_53 (by decide) (fun hc => ?_) (fun hc => ?_)
      · replace h := Eq.mp (if_pos hc) h
        refine lv_iconst (v := (0 : Int32)) X.1 X.2.1 dX6_go_68 (by decide) ?_
        exact g_iret X (mo_person, mo_moves, mo_pushes, mo_boxes, mo_kept, aDO) h hP hD hS dX6_go_69
      · replace h := Eq.mp (if_neg hc) h
        refine lv_aload_n X.1 X.2.1 dX6_go_56 rfl (lv_at hl 3 rfl) ?_
        refine g_get X hP 0 6 11 (v := .long mo_boxes) rfl rfl inX6 (by decide) fl_X6_97 rfl dX6_go_57 ?_
        refine lv_iload X.1 X.2.1 dX6_go_60 (lv_at hl 0 rfl) ?_
        refine g_ci (wr := [cMO hMO mo_thrown mo_size hTM mo_isBoard mo_width mo_height mo_person mo_moves mo_pushes mo_floor mo_goals mo_boxes mo_newFloor mo_newGoals mo_newBoxes mo_newPerson mo_newWidth mo_kept hDO mo_many mo_taken mo_length hXB hXC hXF hXY hXS hXP hFA hLE, cI G hDO 500 aDO]) X [] [0, 1] (g_rS (As := [.long mo_boxes, .int r_4]) (rest := []) X (c_MO_has l G mo_boxes r_4 _ h _) lk_X6_90 rfl rfl ⟨Nat.le_of_ble_eq_true rfl, Nat.le_of_ble_eq_true rfl⟩ hP hD hS [] rfl rfl rfl hl.1 rfl (Nat.le_of_ble_eq_true rfl) dX6_go_62 ⟨Nat.le_of_ble_eq_true rfl, Nat.le_of_ble_eq_true rfl⟩) hP hD hS rfl rfl rfl (by decide) (fun r_6 u H locs h hP hD hS => ?_)
        try dsimp only at h
        replace hP := hP.sub (ws' := [cMO hMO mo_thrown mo_size hTM mo_isBoard mo_width mo_height mo_person mo_moves mo_pushes mo_floor mo_goals mo_boxes mo_newFloor mo_newGoals mo_newBoxes mo_newPerson mo_newWidth mo_kept hDO mo_many mo_taken mo_length hXB hXC hXF hXY hXS hXP hFA hLE, cI G hDO 500 aDO]) [0, 1] rfl
        replace hD := hD.sub (ws' := [cMO hMO mo_thrown mo_size hTM mo_isBoard mo_width mo_height mo_person mo_moves mo_pushes mo_floor mo_goals mo_boxes mo_newFloor mo_newGoals mo_newBoxes mo_newPerson mo_newWidth mo_kept hDO mo_many mo_taken mo_length hXB hXC hXF hXY hXS hXP hFA hLE, cI G hDO 500 aDO]) [0, 1] rfl rfl
        refine lv_if_eq (tgt := 70) X.1 X.2.1 dX6_go_65 (by decide) (fun hc => ?_) (fun hc => ?_)
        · replace h := Eq.mp (if_pos hc) h
          refine lv_aload_n X.1 X.2.1 dX6_go_70 rfl (lv_at hl 3 rfl) ?_
          refine lv_aload_n X.1 X.2.1 dX6_go_71 rfl (lv_at hl 3 rfl) ?_
          refine g_get X hP 0 6 11 (v := .long mo_boxes) rfl rfl inX6 (by decide) fl_X6_97 rfl dX6_go_72 ?_
          refine lv_lconst (v := (1 : Int64)) X.1 X.2.1 dX6_go_75 (by decide) ?_
          refine lv_iload_n X.1 X.2.1 dX6_go_76 rfl (lv_at hl 2 rfl) ?_
          refine lv_lshl X.1 X.2.1 dX6_go_77 rfl ?_
          refine lv_ldc2 (v := (-1 : Int64)) X.1 X.2.1 X.2.2.2.1 (X.2.2.2.2.1 _ cn_X6_116) dX6_go_78 ?_
          refine lv_lxor X.1 X.2.1 dX6_go_81 ?_
          refine lv_land X.1 X.2.1 dX6_go_82 ?_
          refine lv_lconst (v := (1 : Int64)) X.1 X.2.1 dX6_go_83 (by decide) ?_
          refine lv_iload X.1 X.2.1 dX6_go_84 (lv_at hl 0 rfl) ?_
          refine lv_lshl X.1 X.2.1 dX6_go_86 rfl ?_
          refine lv_lor X.1 X.2.1 dX6_go_87 ?_
          refine lv_topl (fun mo_boxes_7 e_mo_boxes_7 => ?_)
          replace h := h mo_boxes_7 e_mo_boxes_7
          refine g_put X hP hD hS 0 6 11 (v := .long mo_boxes_7) rfl rfl inX6 tyX6 tyX6_ok nmX6 (by decide) fl_X6_97 rfl rfl rfl rfl (Nat.le_of_ble_eq_true rfl) dX6_go_88 (fun H locs hP hD hS => ?_)
          replace hP : va_P G.1 gCl [cMO hMO mo_thrown mo_size hTM mo_isBoard mo_width mo_height mo_person mo_moves mo_pushes mo_floor mo_goals mo_boxes_7 mo_newFloor mo_newGoals mo_newBoxes mo_newPerson mo_newWidth mo_kept hDO mo_many mo_taken mo_length hXB hXC hXF hXY hXS hXP hFA hLE, cI G hDO 500 aDO] H := hP
          replace hD : va_D A [cMO hMO mo_thrown mo_size hTM mo_isBoard mo_width mo_height mo_person mo_moves mo_pushes mo_floor mo_goals mo_boxes_7 mo_newFloor mo_newGoals mo_newBoxes mo_newPerson mo_newWidth mo_kept hDO mo_many mo_taken mo_length hXB hXC hXF hXY hXS hXP hFA hLE, cI G hDO 500 aDO] := hD
          refine lv_iconst (v := (2 : Int32)) X.1 X.2.1 dX6_go_91 (by decide) ?_
          refine lv_istore_n (lv' := [(3, .int (2 : Int32)), (4, .int r_4), (2, .int r_1), (0, .ref hMO), (1, .int v1)]) X.1 X.2.1 dX6_go_92 rfl hl (by decide) rfl (fun ls hl => ?_)
          exact s_MO_go_93 X  mo_person mo_moves mo_pushes mo_boxes_7 mo_kept aDO v1 r_1 (2 : Int32) _ _ _ h hP hD hS (lv_sub hl [3, 4, 2, 0] rfl)
        · replace h := Eq.mp (if_neg hc) h
          refine lv_iconst (v := (0 : Int32)) X.1 X.2.1 dX6_go_68 (by decide) ?_
          exact g_iret X (mo_person, mo_moves, mo_pushes, mo_boxes, mo_kept, aDO) h hP hD hS dX6_go_69
  · replace h := Eq.mp (if_pos hc) h
    refine lv_iconst (v := (0 : Int32)) X.1 X.2.1 dX6_go_21 (by decide) ?_
    exact g_iret X (mo_person, mo_moves, mo_pushes, mo_boxes, mo_kept, aDO) h hP hD hS dX6_go_22
abbrev rm_MO_move : Room := { frames := 3, cells := 0, slots := 0, locals := 70 }
set_option maxHeartbeats 4000000 in
set_option maxRecDepth 100000 in
theorem s_MO_move_31 {p : Program} {l : Launch} {e : Env} {s : State} {m : MethodId} {args : Array Value} {below : List Frame} {meth : Method} {c : Code} {G : gEnv} {A : Nat → Prop} {hMO : Nat} {hTM : Nat} {hDO : Nat} {hXB : Nat} {hXC : Nat} {hXF : Nat} {hXY : Nat} {hXS : Nat} {hXP : Nat} {hFA : Nat} {hLE : Nat} {mo_size : Int32} {mo_goals : Int64} {mo_newFloor : Int64} {mo_newGoals : Int64} {mo_newBoxes : Int64} {mo_newPerson : Int32} {mo_newWidth : Int32} {mo_many : Int32} {mo_taken : Int32} {mo_length : Int32} {mo_isBoard : Int32} {mo_width : Int32} {mo_height : Int32} {mo_floor : Int64} {k36 : Int32 → Int32 → Int32 → Int32 → Int64 → Int32 → (Nat → Int32) → Int32 → Int32 → Int32 → Prop} {post : Int32 → Int32 → Int32 → Int32 → Int32 → Int64 → Int32 → (Nat → Int32) → Prop} (X : gX p m meth c cX6_move 2 RX6 (some .int) s args G A) (hk36 : ∀ (mo_thrown' : Int32) (mo_person' : Int32) (mo_moves' : Int32) (mo_pushes' : Int32) (mo_boxes' : Int64) (mo_kept' : Int32) (aDO' : (Nat → Int32)) (v1' : Int32) (t1' : Int32) (t2' : Int32) (H : Heap) (locs : List Loc) (ls : Array Slot), k36 mo_thrown' mo_person' mo_moves' mo_pushes' mo_boxes' mo_kept' aDO' v1' t1' t2' → va_P G.1 gCl [cMO hMO mo_thrown' mo_size hTM mo_isBoard mo_width mo_height mo_person' mo_moves' mo_pushes' mo_floor mo_goals mo_boxes' mo_newFloor mo_newGoals mo_newBoxes mo_newPerson mo_newWidth mo_kept' hDO mo_many mo_taken mo_length hXB hXC hXF hXY hXS hXP hFA hLE, cI G hDO 500 aDO'] H → va_D A [cMO hMO mo_thrown' mo_size hTM mo_isBoard mo_width mo_height mo_person' mo_moves' mo_pushes' mo_floor mo_goals mo_boxes' mo_newFloor mo_newGoals mo_newBoxes mo_newPerson mo_newWidth mo_kept' hDO mo_many mo_taken mo_length hXB hXC hXF hXY hXS hXP hFA hLE, cI G hDO 500 aDO'] → va_S A s.heap H locs → lv_has ls 2 [(0, .ref hMO), (1, .int v1')] → W p l e rm_MO_move s m args below meth c H locs 0 0 (MQ below (gQi G (fun (r : Int32) (u : Int32 × Int32 × Int32 × Int32 × Int64 × Int32 × (Nat → Int32)) => post r u.1 u.2.1 u.2.2.1 u.2.2.2.1 u.2.2.2.2.1 u.2.2.2.2.2.1 u.2.2.2.2.2.2) (fun (u : Int32 × Int32 × Int32 × Int32 × Int64 × Int32 × (Nat → Int32)) => [cMO hMO u.1 mo_size hTM mo_isBoard mo_width mo_height u.2.1 u.2.2.1 u.2.2.2.1 mo_floor mo_goals u.2.2.2.2.1 mo_newFloor mo_newGoals mo_newBoxes mo_newPerson mo_newWidth u.2.2.2.2.2.1 hDO mo_many mo_taken mo_length hXB hXC hXF hXY hXS hXP hFA hLE, cI G hDO 500 u.2.2.2.2.2.2]) A) args s 0 0 A) (F0 m 36 ls [.int t2', .int t1', .ref hMO])) : ∀ (mo_thrown : Int32) (mo_person : Int32) (mo_moves : Int32) (mo_pushes : Int32) (mo_boxes : Int64) (mo_kept : Int32) (aDO : (Nat → Int32)) (v1 : Int32) (t1 : Int32) (H : Heap) (locs : List Loc) (ls : Array Slot), MO_move_31 mo_isBoard mo_width mo_height mo_floor k36 post mo_thrown mo_person mo_moves mo_pushes mo_boxes mo_kept aDO v1 t1 → va_P G.1 gCl [cMO hMO mo_thrown mo_size hTM mo_isBoard mo_width mo_height mo_person mo_moves mo_pushes mo_floor mo_goals mo_boxes mo_newFloor mo_newGoals mo_newBoxes mo_newPerson mo_newWidth mo_kept hDO mo_many mo_taken mo_length hXB hXC hXF hXY hXS hXP hFA hLE, cI G hDO 500 aDO] H → va_D A [cMO hMO mo_thrown mo_size hTM mo_isBoard mo_width mo_height mo_person mo_moves mo_pushes mo_floor mo_goals mo_boxes mo_newFloor mo_newGoals mo_newBoxes mo_newPerson mo_newWidth mo_kept hDO mo_many mo_taken mo_length hXB hXC hXF hXY hXS hXP hFA hLE, cI G hDO 500 aDO] → va_S A s.heap H locs → lv_has ls 2 [(0, .ref hMO), (1, .int v1)] → W p l e rm_MO_move s m args below meth c H locs 0 0 (MQ below (gQi G (fun (r : Int32) (u : Int32 × Int32 × Int32 × Int32 × Int64 × Int32 × (Nat → Int32)) => post r u.1 u.2.1 u.2.2.1 u.2.2.2.1 u.2.2.2.2.1 u.2.2.2.2.2.1 u.2.2.2.2.2.2) (fun (u : Int32 × Int32 × Int32 × Int32 × Int64 × Int32 × (Nat → Int32)) => [cMO hMO u.1 mo_size hTM mo_isBoard mo_width mo_height u.2.1 u.2.2.1 u.2.2.2.1 mo_floor mo_goals u.2.2.2.2.1 mo_newFloor mo_newGoals mo_newBoxes mo_newPerson mo_newWidth u.2.2.2.2.2.1 hDO mo_many mo_taken mo_length hXB hXC hXF hXY hXS hXP hFA hLE, cI G hDO 500 u.2.2.2.2.2.2]) A) args s 0 0 A) (F0 m 31 ls [.int t1, .ref hMO]) := by
  intro mo_thrown mo_person mo_moves mo_pushes mo_boxes mo_kept aDO v1 t1 H locs ls h hP hD hS hl
  unfold MO_move_31 at h
  refine lv_iconst (v := (1 : Int32)) X.1 X.2.1 dX6_move_31 (by decide) ?_
  refine lv_goto (tgt := 36) X.1 X.2.1 dX6_move_32 (by decide) ?_
  exact hk36 mo_thrown mo_person mo_moves mo_pushes mo_boxes mo_kept aDO v1 t1 (1 : Int32) _ _ _ h hP hD hS (lv_sub hl [0, 1] rfl)
set_option maxHeartbeats 4000000 in
set_option maxRecDepth 100000 in
theorem s_MO_move_36 {p : Program} {l : Launch} {e : Env} {s : State} {m : MethodId} {args : Array Value} {below : List Frame} {meth : Method} {c : Code} {G : gEnv} {A : Nat → Prop} {hMO : Nat} {hTM : Nat} {hDO : Nat} {hXB : Nat} {hXC : Nat} {hXF : Nat} {hXY : Nat} {hXS : Nat} {hXP : Nat} {hFA : Nat} {hLE : Nat} {mo_size : Int32} {mo_goals : Int64} {mo_newFloor : Int64} {mo_newGoals : Int64} {mo_newBoxes : Int64} {mo_newPerson : Int32} {mo_newWidth : Int32} {mo_many : Int32} {mo_taken : Int32} {mo_length : Int32} {mo_isBoard : Int32} {mo_width : Int32} {mo_height : Int32} {mo_floor : Int64} {post : Int32 → Int32 → Int32 → Int32 → Int32 → Int64 → Int32 → (Nat → Int32) → Prop} (X : gX p m meth c cX6_move 2 RX6 (some .int) s args G A)  : ∀ (mo_thrown : Int32) (mo_person : Int32) (mo_moves : Int32) (mo_pushes : Int32) (mo_boxes : Int64) (mo_kept : Int32) (aDO : (Nat → Int32)) (v1 : Int32) (t1 : Int32) (t2 : Int32) (H : Heap) (locs : List Loc) (ls : Array Slot), MO_move_36 mo_isBoard mo_width mo_height mo_floor post mo_thrown mo_person mo_moves mo_pushes mo_boxes mo_kept aDO v1 t1 t2 → va_P G.1 gCl [cMO hMO mo_thrown mo_size hTM mo_isBoard mo_width mo_height mo_person mo_moves mo_pushes mo_floor mo_goals mo_boxes mo_newFloor mo_newGoals mo_newBoxes mo_newPerson mo_newWidth mo_kept hDO mo_many mo_taken mo_length hXB hXC hXF hXY hXS hXP hFA hLE, cI G hDO 500 aDO] H → va_D A [cMO hMO mo_thrown mo_size hTM mo_isBoard mo_width mo_height mo_person mo_moves mo_pushes mo_floor mo_goals mo_boxes mo_newFloor mo_newGoals mo_newBoxes mo_newPerson mo_newWidth mo_kept hDO mo_many mo_taken mo_length hXB hXC hXF hXY hXS hXP hFA hLE, cI G hDO 500 aDO] → va_S A s.heap H locs → lv_has ls 2 [(0, .ref hMO), (1, .int v1)] → W p l e rm_MO_move s m args below meth c H locs 0 0 (MQ below (gQi G (fun (r : Int32) (u : Int32 × Int32 × Int32 × Int32 × Int64 × Int32 × (Nat → Int32)) => post r u.1 u.2.1 u.2.2.1 u.2.2.2.1 u.2.2.2.2.1 u.2.2.2.2.2.1 u.2.2.2.2.2.2) (fun (u : Int32 × Int32 × Int32 × Int32 × Int64 × Int32 × (Nat → Int32)) => [cMO hMO u.1 mo_size hTM mo_isBoard mo_width mo_height u.2.1 u.2.2.1 u.2.2.2.1 mo_floor mo_goals u.2.2.2.2.1 mo_newFloor mo_newGoals mo_newBoxes mo_newPerson mo_newWidth u.2.2.2.2.2.1 hDO mo_many mo_taken mo_length hXB hXC hXF hXY hXS hXP hFA hLE, cI G hDO 500 u.2.2.2.2.2.2]) A) args s 0 0 A) (F0 m 36 ls [.int t2, .int t1, .ref hMO]) := by
  intro mo_thrown mo_person mo_moves mo_pushes mo_boxes mo_kept aDO v1 t1 t2 H locs ls h hP hD hS hl
  unfold MO_move_36 at h
  refine g_ci (wr := [cI G hDO 500 aDO]) X [0] [1] (g_rV (As := [.int t1, .int t2]) (rest := []) X (c_MO_throwsIf l G hMO hTM hDO hXB hXC hXF hXY hXS hXP hFA hLE mo_thrown mo_size mo_isBoard mo_width mo_height mo_person mo_moves mo_pushes mo_floor mo_goals mo_boxes mo_newFloor mo_newGoals mo_newBoxes mo_newPerson mo_newWidth mo_kept mo_many mo_taken mo_length t1 t2 _ h _) lk_X6_118 rfl rfl ⟨Nat.le_of_ble_eq_true rfl, Nat.le_of_ble_eq_true rfl⟩ hP hD hS [0] rfl rfl 0 6 rfl rfl rfl hl.1 rfl (Nat.le_of_ble_eq_true rfl) dX6_move_36 ⟨Nat.le_of_ble_eq_true rfl, Nat.le_of_ble_eq_true rfl⟩) hP hD hS rfl rfl rfl (by decide) (fun r_1 u H locs h hP hD hS => ?_)
  obtain ⟨mo_thrown_2, rfl⟩ : ∃ z, z = u := ⟨_, rfl⟩
  try dsimp only at h
  replace hP := hP.sub (ws' := [cMO hMO mo_thrown_2 mo_size hTM mo_isBoard mo_width mo_height mo_person mo_moves mo_pushes mo_floor mo_goals mo_boxes mo_newFloor mo_newGoals mo_newBoxes mo_newPerson mo_newWidth mo_kept hDO mo_many mo_taken mo_length hXB hXC hXF hXY hXS hXP hFA hLE, cI G hDO 500 aDO]) [1, 0] rfl
  replace hD := hD.sub (ws' := [cMO hMO mo_thrown_2 mo_size hTM mo_isBoard mo_width mo_height mo_person mo_moves mo_pushes mo_floor mo_goals mo_boxes mo_newFloor mo_newGoals mo_newBoxes mo_newPerson mo_newWidth mo_kept hDO mo_many mo_taken mo_length hXB hXC hXF hXY hXS hXP hFA hLE, cI G hDO 500 aDO]) [1, 0] rfl rfl
  refine lv_if_eq (tgt := 44) X.1 X.2.1 dX6_move_39 (by decide) (fun hc => ?_) (fun hc => ?_)
  · replace h := Eq.mp (if_pos hc) h
    refine lv_aload_n X.1 X.2.1 dX6_move_44 rfl (lv_at hl 0 rfl) ?_
    refine lv_iload_n X.1 X.2.1 dX6_move_45 rfl (lv_at hl 1 rfl) ?_
    refine g_ci (wr := []) X [0, 1] [] (g_rV (As := [.int v1]) (rest := []) X (c_MO_go l G hMO hTM hDO hXB hXC hXF hXY hXS hXP hFA hLE mo_thrown_2 mo_size mo_isBoard mo_width mo_height mo_person mo_moves mo_pushes mo_floor mo_goals mo_boxes mo_newFloor mo_newGoals mo_newBoxes mo_newPerson mo_newWidth mo_kept mo_many mo_taken mo_length aDO v1 _ h _) lk_X6_122 rfl rfl ⟨Nat.le_of_ble_eq_true rfl, Nat.le_of_ble_eq_true rfl⟩ hP hD hS [0, 1] rfl rfl 0 6 rfl rfl rfl hl.1 rfl (Nat.le_of_ble_eq_true rfl) dX6_move_46 ⟨Nat.le_of_ble_eq_true rfl, Nat.le_of_ble_eq_true rfl⟩) hP hD hS rfl rfl rfl (by decide) (fun r_3 u H locs h hP hD hS => ?_)
    obtain ⟨mo_person_4, mo_moves_5, mo_pushes_6, mo_boxes_7, mo_kept_8, aDO_9⟩ := u
    try dsimp only at h
    replace hP := hP.sub (ws' := [cMO hMO mo_thrown_2 mo_size hTM mo_isBoard mo_width mo_height mo_person_4 mo_moves_5 mo_pushes_6 mo_floor mo_goals mo_boxes_7 mo_newFloor mo_newGoals mo_newBoxes mo_newPerson mo_newWidth mo_kept_8 hDO mo_many mo_taken mo_length hXB hXC hXF hXY hXS hXP hFA hLE, cI G hDO 500 aDO_9]) [0, 1] rfl
    replace hD := hD.sub (ws' := [cMO hMO mo_thrown_2 mo_size hTM mo_isBoard mo_width mo_height mo_person_4 mo_moves_5 mo_pushes_6 mo_floor mo_goals mo_boxes_7 mo_newFloor mo_newGoals mo_newBoxes mo_newPerson mo_newWidth mo_kept_8 hDO mo_many mo_taken mo_length hXB hXC hXF hXY hXS hXP hFA hLE, cI G hDO 500 aDO_9]) [0, 1] rfl rfl
    exact g_iret X (mo_thrown_2, mo_person_4, mo_moves_5, mo_pushes_6, mo_boxes_7, mo_kept_8, aDO_9) h hP hD hS dX6_move_49
  · replace h := Eq.mp (if_neg hc) h
    refine lv_iconst (v := (0 : Int32)) X.1 X.2.1 dX6_move_42 (by decide) ?_
    exact g_iret X (mo_thrown_2, mo_person, mo_moves, mo_pushes, mo_boxes, mo_kept, aDO) h hP hD hS dX6_move_43
set_option maxHeartbeats 4000000 in
set_option maxRecDepth 100000 in
theorem s_MO_move_14 {p : Program} {l : Launch} {e : Env} {s : State} {m : MethodId} {args : Array Value} {below : List Frame} {meth : Method} {c : Code} {G : gEnv} {A : Nat → Prop} {hMO : Nat} {hTM : Nat} {hDO : Nat} {hXB : Nat} {hXC : Nat} {hXF : Nat} {hXY : Nat} {hXS : Nat} {hXP : Nat} {hFA : Nat} {hLE : Nat} {mo_size : Int32} {mo_goals : Int64} {mo_newFloor : Int64} {mo_newGoals : Int64} {mo_newBoxes : Int64} {mo_newPerson : Int32} {mo_newWidth : Int32} {mo_many : Int32} {mo_taken : Int32} {mo_length : Int32} {mo_isBoard : Int32} {mo_width : Int32} {mo_height : Int32} {mo_floor : Int64} {post : Int32 → Int32 → Int32 → Int32 → Int32 → Int64 → Int32 → (Nat → Int32) → Prop} (X : gX p m meth c cX6_move 2 RX6 (some .int) s args G A)  : ∀ (mo_thrown : Int32) (mo_person : Int32) (mo_moves : Int32) (mo_pushes : Int32) (mo_boxes : Int64) (mo_kept : Int32) (aDO : (Nat → Int32)) (v1 : Int32) (t1 : Int32) (t2 : Int32) (H : Heap) (locs : List Loc) (ls : Array Slot), MO_move_14 mo_isBoard mo_width mo_height mo_floor post mo_thrown mo_person mo_moves mo_pushes mo_boxes mo_kept aDO v1 t1 t2 → va_P G.1 gCl [cMO hMO mo_thrown mo_size hTM mo_isBoard mo_width mo_height mo_person mo_moves mo_pushes mo_floor mo_goals mo_boxes mo_newFloor mo_newGoals mo_newBoxes mo_newPerson mo_newWidth mo_kept hDO mo_many mo_taken mo_length hXB hXC hXF hXY hXS hXP hFA hLE, cI G hDO 500 aDO] H → va_D A [cMO hMO mo_thrown mo_size hTM mo_isBoard mo_width mo_height mo_person mo_moves mo_pushes mo_floor mo_goals mo_boxes mo_newFloor mo_newGoals mo_newBoxes mo_newPerson mo_newWidth mo_kept hDO mo_many mo_taken mo_length hXB hXC hXF hXY hXS hXP hFA hLE, cI G hDO 500 aDO] → va_S A s.heap H locs → lv_has ls 2 [(0, .ref hMO), (1, .int v1)] → W p l e rm_MO_move s m args below meth c H locs 0 0 (MQ below (gQi G (fun (r : Int32) (u : Int32 × Int32 × Int32 × Int32 × Int64 × Int32 × (Nat → Int32)) => post r u.1 u.2.1 u.2.2.1 u.2.2.2.1 u.2.2.2.2.1 u.2.2.2.2.2.1 u.2.2.2.2.2.2) (fun (u : Int32 × Int32 × Int32 × Int32 × Int64 × Int32 × (Nat → Int32)) => [cMO hMO u.1 mo_size hTM mo_isBoard mo_width mo_height u.2.1 u.2.2.1 u.2.2.2.1 mo_floor mo_goals u.2.2.2.2.1 mo_newFloor mo_newGoals mo_newBoxes mo_newPerson mo_newWidth u.2.2.2.2.2.1 hDO mo_many mo_taken mo_length hXB hXC hXF hXY hXS hXP hFA hLE, cI G hDO 500 u.2.2.2.2.2.2]) A) args s 0 0 A) (F0 m 14 ls [.int t2, .int t1, .ref hMO]) := by
  intro mo_thrown mo_person mo_moves mo_pushes mo_boxes mo_kept aDO v1 t1 t2 H locs ls h hP hD hS hl
  unfold MO_move_14 at h
  refine g_ci (wr := [cI G hDO 500 aDO]) X [0] [1] (g_rV (As := [.int t1, .int t2]) (rest := []) X (c_MO_throwsIf l G hMO hTM hDO hXB hXC hXF hXY hXS hXP hFA hLE mo_thrown mo_size mo_isBoard mo_width mo_height mo_person mo_moves mo_pushes mo_floor mo_goals mo_boxes mo_newFloor mo_newGoals mo_newBoxes mo_newPerson mo_newWidth mo_kept mo_many mo_taken mo_length t1 t2 _ h _) lk_X6_118 rfl rfl ⟨Nat.le_of_ble_eq_true rfl, Nat.le_of_ble_eq_true rfl⟩ hP hD hS [0] rfl rfl 0 6 rfl rfl rfl hl.1 rfl (Nat.le_of_ble_eq_true rfl) dX6_move_14 ⟨Nat.le_of_ble_eq_true rfl, Nat.le_of_ble_eq_true rfl⟩) hP hD hS rfl rfl rfl (by decide) (fun r_1 u H locs h hP hD hS => ?_)
  obtain ⟨mo_thrown_2, rfl⟩ : ∃ z, z = u := ⟨_, rfl⟩
  try dsimp only at h
  replace hP := hP.sub (ws' := [cMO hMO mo_thrown_2 mo_size hTM mo_isBoard mo_width mo_height mo_person mo_moves mo_pushes mo_floor mo_goals mo_boxes mo_newFloor mo_newGoals mo_newBoxes mo_newPerson mo_newWidth mo_kept hDO mo_many mo_taken mo_length hXB hXC hXF hXY hXS hXP hFA hLE, cI G hDO 500 aDO]) [1, 0] rfl
  replace hD := hD.sub (ws' := [cMO hMO mo_thrown_2 mo_size hTM mo_isBoard mo_width mo_height mo_person mo_moves mo_pushes mo_floor mo_goals mo_boxes mo_newFloor mo_newGoals mo_newBoxes mo_newPerson mo_newWidth mo_kept hDO mo_many mo_taken mo_length hXB hXC hXF hXY hXS hXP hFA hLE, cI G hDO 500 aDO]) [1, 0] rfl rfl
  refine lv_if_ne (tgt := 42) X.1 X.2.1 dX6_move_17 (by decide) (fun hc => ?_) (fun hc => ?_)
  · replace h := Eq.mp (if_neg hc) h
    refine lv_iconst (v := (0 : Int32)) X.1 X.2.1 dX6_move_42 (by decide) ?_
    exact g_iret X (mo_thrown_2, mo_person, mo_moves, mo_pushes, mo_boxes, mo_kept, aDO) h hP hD hS dX6_move_43
  · replace h := Eq.mp (if_pos hc) h
    refine lv_aload_n X.1 X.2.1 dX6_move_20 rfl (lv_at hl 0 rfl) ?_
    refine lv_iconst (v := (1 : Int32)) X.1 X.2.1 dX6_move_21 (by decide) ?_
    refine lv_iload_n X.1 X.2.1 dX6_move_22 rfl (lv_at hl 1 rfl) ?_
    refine lv_if_lt (tgt := 31) X.1 X.2.1 dX6_move_23 (by decide) (fun hc => ?_) (fun hc => ?_)
    · replace h := Eq.mp (if_pos hc) h
      exact s_MO_move_31 X (fun mo_thrown' mo_person' mo_moves' mo_pushes' mo_boxes' mo_kept' aDO' v1' t1' t2' H' locs' ls' h' hP' hD' hS' hl' => s_MO_move_36 X  mo_thrown' mo_person' mo_moves' mo_pushes' mo_boxes' mo_kept' aDO' v1' t1' t2' H' locs' ls' h' hP' hD' hS' hl') mo_thrown_2 mo_person mo_moves mo_pushes mo_boxes mo_kept aDO v1 (1 : Int32) _ _ _ h hP hD hS (lv_sub hl [0, 1] rfl)
    · replace h := Eq.mp (if_neg hc) h
      refine lv_iload_n X.1 X.2.1 dX6_move_26 rfl (lv_at hl 1 rfl) ?_
      refine lv_iconst (v := (3 : Int32)) X.1 X.2.1 dX6_move_27 (by decide) ?_
      refine lv_icmp_le (tgt := 35) X.1 X.2.1 dX6_move_28 (by decide) (fun hc => ?_) (fun hc => ?_)
      · replace h := Eq.mp (if_pos hc) h
        refine lv_iconst (v := (0 : Int32)) X.1 X.2.1 dX6_move_35 (by decide) ?_
        exact s_MO_move_36 X  mo_thrown_2 mo_person mo_moves mo_pushes mo_boxes mo_kept aDO v1 (1 : Int32) (0 : Int32) _ _ _ h hP hD hS (lv_sub hl [0, 1] rfl)
      · replace h := Eq.mp (if_neg hc) h
        exact s_MO_move_31 X (fun mo_thrown' mo_person' mo_moves' mo_pushes' mo_boxes' mo_kept' aDO' v1' t1' t2' H' locs' ls' h' hP' hD' hS' hl' => s_MO_move_36 X  mo_thrown' mo_person' mo_moves' mo_pushes' mo_boxes' mo_kept' aDO' v1' t1' t2' H' locs' ls' h' hP' hD' hS' hl') mo_thrown_2 mo_person mo_moves mo_pushes mo_boxes mo_kept aDO v1 (1 : Int32) _ _ _ h hP hD hS (lv_sub hl [0, 1] rfl)
set_option maxHeartbeats 4000000 in
set_option maxRecDepth 100000 in
theorem c_MO_move (l : Launch) (G : gEnv) (hMO : Nat) (hTM : Nat) (hDO : Nat) (hXB : Nat) (hXC : Nat) (hXF : Nat) (hXY : Nat) (hXS : Nat) (hXP : Nat) (hFA : Nat) (hLE : Nat) (mo_thrown : Int32) (mo_size : Int32) (mo_isBoard : Int32) (mo_width : Int32) (mo_height : Int32) (mo_person : Int32) (mo_moves : Int32) (mo_pushes : Int32) (mo_floor : Int64) (mo_goals : Int64) (mo_boxes : Int64) (mo_newFloor : Int64) (mo_newGoals : Int64) (mo_newBoxes : Int64) (mo_newPerson : Int32) (mo_newWidth : Int32) (mo_kept : Int32) (mo_many : Int32) (mo_taken : Int32) (mo_length : Int32) (aDO : Nat → Int32) (v1 : Int32) (post : Int32 → Int32 → Int32 → Int32 → Int32 → Int64 → Int32 → (Nat → Int32) → Prop) (h : MO_move mo_isBoard mo_width mo_height mo_floor mo_thrown mo_person mo_moves mo_pushes mo_boxes mo_kept aDO v1 post) (sz : Nat) : Met l yX6_move (Cond.code yX6_move cX6_move 2 (some .int) :: wAll) (rm_MO_move) (gPc G [.ref hMO, .int v1] [cMO hMO mo_thrown mo_size hTM mo_isBoard mo_width mo_height mo_person mo_moves mo_pushes mo_floor mo_goals mo_boxes mo_newFloor mo_newGoals mo_newBoxes mo_newPerson mo_newWidth mo_kept hDO mo_many mo_taken mo_length hXB hXC hXF hXY hXS hXP hFA hLE, cI G hDO 500 aDO] sz) (gQi G (fun (r : Int32) (u : Int32 × Int32 × Int32 × Int32 × Int64 × Int32 × (Nat → Int32)) => post r u.1 u.2.1 u.2.2.1 u.2.2.2.1 u.2.2.2.2.1 u.2.2.2.2.2.1 u.2.2.2.2.2.2) (fun (u : Int32 × Int32 × Int32 × Int32 × Int64 × Int32 × (Nat → Int32)) => [cMO hMO u.1 mo_size hTM mo_isBoard mo_width mo_height u.2.1 u.2.2.1 u.2.2.2.1 mo_floor mo_goals u.2.2.2.2.1 mo_newFloor mo_newGoals mo_newBoxes mo_newPerson mo_newWidth u.2.2.2.2.2.1 hDO mo_many mo_taken mo_length hXB hXC hXF hXY hXS hXP hFA hLE, cI G hDO 500 u.2.2.2.2.2.2]) (va_A [cMO hMO mo_thrown mo_size hTM mo_isBoard mo_width mo_height mo_person mo_moves mo_pushes mo_floor mo_goals mo_boxes mo_newFloor mo_newGoals mo_newBoxes mo_newPerson mo_newWidth mo_kept hDO mo_many mo_taken mo_length hXB hXC hXF hXY hXS hXP hFA hLE, cI G hDO 500 aDO] sz)) 0 0 (va_A [cMO hMO mo_thrown mo_size hTM mo_isBoard mo_width mo_height mo_person mo_moves mo_pushes mo_floor mo_goals mo_boxes mo_newFloor mo_newGoals mo_newBoxes mo_newPerson mo_newWidth mo_kept hDO mo_many mo_taken mo_length hXB hXC hXF hXY hXS hXP hFA hLE, cI G hDO 500 aDO] sz) := by
  refine Met.ofW (cc := cX6_move) (maxL := 2) (ret := (some .int)) (by decide) rfl ?_
  intro p e s m args below meth c s₁ B hml hv
  obtain ⟨rfl, hsz, hP, hK, hD0⟩ := hv
  subst hsz
  have X := gX.ofB (ws := [cMO hMO mo_thrown mo_size hTM mo_isBoard mo_width mo_height mo_person mo_moves mo_pushes mo_floor mo_goals mo_boxes mo_newFloor mo_newGoals mo_newBoxes mo_newPerson mo_newWidth mo_kept hDO mo_many mo_taken mo_length hXB hXC hXF hXY hXS hXP hFA hLE, cI G hDO 500 aDO]) B hml hK hD0
  have hD := hD0.self (sz := s.heap.size)
  generalize hAe : va_A [cMO hMO mo_thrown mo_size hTM mo_isBoard mo_width mo_height mo_person mo_moves mo_pushes mo_floor mo_goals mo_boxes mo_newFloor mo_newGoals mo_newBoxes mo_newPerson mo_newWidth mo_kept hDO mo_many mo_taken mo_length hXB hXC hXF hXY hXS hXP hFA hLE, cI G hDO 500 aDO] s.heap.size = A at X hD ⊢
  have hS : va_S A s.heap s.heap [] := va_S.rf
  have hl := lv_entry ([.ref hMO, .int v1]) (n := 2) (Nat.le_of_ble_eq_true rfl)
  rw [lg_entry_eq]
  generalize (lg_sl ([.ref hMO, .int v1]) ++ List.replicate (2 - (lg_sl ([.ref hMO, .int v1])).length) Slot.unset).toArray = ls at hl ⊢
  have hl : lv_has ls 2 [(0, .ref hMO), (1, .int v1)] := hl
  dsimp only [headSpec]
  unfold MO_move at h
  refine lv_aload_n X.1 X.2.1 dX6_move_0 rfl (lv_at hl 0 rfl) ?_
  refine lv_iconst (v := (2 : Int32)) X.1 X.2.1 dX6_move_1 (by decide) ?_
  refine lv_aload_n X.1 X.2.1 dX6_move_2 rfl (lv_at hl 0 rfl) ?_
  refine g_get X hP 0 6 3 (v := .int mo_isBoard) rfl rfl inX6 (by decide) fl_X6_83 rfl dX6_move_3 ?_
  refine lv_if_ne (tgt := 13) X.1 X.2.1 dX6_move_6 (by decide) (fun hc => ?_) (fun hc => ?_)
  · replace h := Eq.mp (if_neg hc) h
    refine lv_iconst (v := (0 : Int32)) X.1 X.2.1 dX6_move_13 (by decide) ?_
    exact s_MO_move_14 X  mo_thrown mo_person mo_moves mo_pushes mo_boxes mo_kept aDO v1 (2 : Int32) (0 : Int32) _ _ _ h hP hD hS (lv_sub hl [0, 1] rfl)
  · replace h := Eq.mp (if_pos hc) h
    refine lv_iconst (v := (1 : Int32)) X.1 X.2.1 dX6_move_9 (by decide) ?_
    refine lv_goto (tgt := 14) X.1 X.2.1 dX6_move_10 (by decide) ?_
    exact s_MO_move_14 X  mo_thrown mo_person mo_moves mo_pushes mo_boxes mo_kept aDO v1 (2 : Int32) (1 : Int32) _ _ _ h hP hD hS (lv_sub hl [0, 1] rfl)
abbrev rm_MO_undo : Room := { frames := 2, cells := 0, slots := 0, locals := 46 }
set_option maxHeartbeats 4000000 in
set_option maxRecDepth 100000 in
theorem s_MO_undo_133 {p : Program} {l : Launch} {e : Env} {s : State} {m : MethodId} {args : Array Value} {below : List Frame} {meth : Method} {c : Code} {G : gEnv} {A : Nat → Prop} {hMO : Nat} {hTM : Nat} {hDO : Nat} {hXB : Nat} {hXC : Nat} {hXF : Nat} {hXY : Nat} {hXS : Nat} {hXP : Nat} {hFA : Nat} {hLE : Nat} {mo_size : Int32} {mo_isBoard : Int32} {mo_floor : Int64} {mo_goals : Int64} {mo_newFloor : Int64} {mo_newGoals : Int64} {mo_newBoxes : Int64} {mo_newPerson : Int32} {mo_newWidth : Int32} {mo_many : Int32} {mo_taken : Int32} {mo_length : Int32} {mo_width : Int32} {mo_height : Int32} {aDO : Nat → Int32} {post : Int32 → Int32 → Int32 → Int32 → Int32 → Int64 → Int32 → Prop} (X : gX p m meth c cX6_undo 4 RX6 (some .int) s args G A)  : ∀ (mo_thrown : Int32) (mo_person : Int32) (mo_moves : Int32) (mo_pushes : Int32) (mo_boxes : Int64) (mo_kept : Int32) (v2 : Int32) (t1 : Int32) (t2 : Int32) (H : Heap) (locs : List Loc) (ls : Array Slot), MO_undo_133 mo_width mo_height aDO post mo_thrown mo_person mo_moves mo_pushes mo_boxes mo_kept v2 t1 t2 → va_P G.1 gCl [cMO hMO mo_thrown mo_size hTM mo_isBoard mo_width mo_height mo_person mo_moves mo_pushes mo_floor mo_goals mo_boxes mo_newFloor mo_newGoals mo_newBoxes mo_newPerson mo_newWidth mo_kept hDO mo_many mo_taken mo_length hXB hXC hXF hXY hXS hXP hFA hLE, cI G hDO 500 aDO] H → va_D A [cMO hMO mo_thrown mo_size hTM mo_isBoard mo_width mo_height mo_person mo_moves mo_pushes mo_floor mo_goals mo_boxes mo_newFloor mo_newGoals mo_newBoxes mo_newPerson mo_newWidth mo_kept hDO mo_many mo_taken mo_length hXB hXC hXF hXY hXS hXP hFA hLE, cI G hDO 500 aDO] → va_S A s.heap H locs → lv_has ls 4 [(0, .ref hMO), (2, .int v2)] → W p l e rm_MO_undo s m args below meth c H locs 0 0 (MQ below (gQi G (fun (r : Int32) (u : Int32 × Int32 × Int32 × Int32 × Int64 × Int32) => post r u.1 u.2.1 u.2.2.1 u.2.2.2.1 u.2.2.2.2.1 u.2.2.2.2.2) (fun (u : Int32 × Int32 × Int32 × Int32 × Int64 × Int32) => [cMO hMO u.1 mo_size hTM mo_isBoard mo_width mo_height u.2.1 u.2.2.1 u.2.2.2.1 mo_floor mo_goals u.2.2.2.2.1 mo_newFloor mo_newGoals mo_newBoxes mo_newPerson mo_newWidth u.2.2.2.2.2 hDO mo_many mo_taken mo_length hXB hXC hXF hXY hXS hXP hFA hLE, cI G hDO 500 aDO]) A) args s 0 0 A) (F0 m 133 ls [.int t2, .int t1, .ref hMO]) := by
  intro mo_thrown mo_person mo_moves mo_pushes mo_boxes mo_kept v2 t1 t2 H locs ls h hP hD hS hl
  unfold MO_undo_133 at h
  refine lv_isub X.1 X.2.1 dX6_undo_133 ?_
  refine lv_topi (fun mo_pushes_1 e_mo_pushes_1 => ?_)
  replace h := h mo_pushes_1 e_mo_pushes_1
  refine g_put X hP hD hS 0 6 8 (v := .int mo_pushes_1) rfl rfl inX6 tyX6 tyX6_ok nmX6 (by decide) fl_X6_106 rfl rfl rfl rfl (Nat.le_of_ble_eq_true rfl) dX6_undo_134 (fun H locs hP hD hS => ?_)
  replace hP : va_P G.1 gCl [cMO hMO mo_thrown mo_size hTM mo_isBoard mo_width mo_height mo_person mo_moves mo_pushes_1 mo_floor mo_goals mo_boxes mo_newFloor mo_newGoals mo_newBoxes mo_newPerson mo_newWidth mo_kept hDO mo_many mo_taken mo_length hXB hXC hXF hXY hXS hXP hFA hLE, cI G hDO 500 aDO] H := hP
  replace hD : va_D A [cMO hMO mo_thrown mo_size hTM mo_isBoard mo_width mo_height mo_person mo_moves mo_pushes_1 mo_floor mo_goals mo_boxes mo_newFloor mo_newGoals mo_newBoxes mo_newPerson mo_newWidth mo_kept hDO mo_many mo_taken mo_length hXB hXC hXF hXY hXS hXP hFA hLE, cI G hDO 500 aDO] := hD
  refine lv_iload_n X.1 X.2.1 dX6_undo_137 rfl (lv_at hl 1 rfl) ?_
  refine lv_if_eq (tgt := 145) X.1 X.2.1 dX6_undo_138 (by decide) (fun hc => ?_) (fun hc => ?_)
  · replace h := Eq.mp (if_pos hc) h
    refine lv_iconst (v := (1 : Int32)) X.1 X.2.1 dX6_undo_145 (by decide) ?_
    exact g_iret X (mo_thrown, mo_person, mo_moves, mo_pushes_1, mo_boxes, mo_kept) h hP hD hS dX6_undo_146
  · replace h := Eq.mp (if_neg hc) h
    refine lv_iconst (v := (2 : Int32)) X.1 X.2.1 dX6_undo_141 (by decide) ?_
    refine lv_goto (tgt := 146) X.1 X.2.1 dX6_undo_142 (by decide) ?_
    exact g_iret X (mo_thrown, mo_person, mo_moves, mo_pushes_1, mo_boxes, mo_kept) h hP hD hS dX6_undo_146
set_option maxHeartbeats 4000000 in
set_option maxRecDepth 100000 in
theorem s_MO_undo_92 {p : Program} {l : Launch} {e : Env} {s : State} {m : MethodId} {args : Array Value} {below : List Frame} {meth : Method} {c : Code} {G : gEnv} {A : Nat → Prop} {hMO : Nat} {hTM : Nat} {hDO : Nat} {hXB : Nat} {hXC : Nat} {hXF : Nat} {hXY : Nat} {hXS : Nat} {hXP : Nat} {hFA : Nat} {hLE : Nat} {mo_size : Int32} {mo_isBoard : Int32} {mo_floor : Int64} {mo_goals : Int64} {mo_newFloor : Int64} {mo_newGoals : Int64} {mo_newBoxes : Int64} {mo_newPerson : Int32} {mo_newWidth : Int32} {mo_many : Int32} {mo_taken : Int32} {mo_length : Int32} {mo_width : Int32} {mo_height : Int32} {aDO : Nat → Int32} {post : Int32 → Int32 → Int32 → Int32 → Int32 → Int64 → Int32 → Prop} (X : gX p m meth c cX6_undo 4 RX6 (some .int) s args G A)  : ∀ (mo_thrown : Int32) (mo_person : Int32) (mo_moves : Int32) (mo_pushes : Int32) (mo_boxes : Int64) (mo_kept : Int32) (v1 : Int32) (v2 : Int32) (H : Heap) (locs : List Loc) (ls : Array Slot), MO_undo_92 mo_width mo_height aDO post mo_thrown mo_person mo_moves mo_pushes mo_boxes mo_kept v1 v2 → va_P G.1 gCl [cMO hMO mo_thrown mo_size hTM mo_isBoard mo_width mo_height mo_person mo_moves mo_pushes mo_floor mo_goals mo_boxes mo_newFloor mo_newGoals mo_newBoxes mo_newPerson mo_newWidth mo_kept hDO mo_many mo_taken mo_length hXB hXC hXF hXY hXS hXP hFA hLE, cI G hDO 500 aDO] H → va_D A [cMO hMO mo_thrown mo_size hTM mo_isBoard mo_width mo_height mo_person mo_moves mo_pushes mo_floor mo_goals mo_boxes mo_newFloor mo_newGoals mo_newBoxes mo_newPerson mo_newWidth mo_kept hDO mo_many mo_taken mo_length hXB hXC hXF hXY hXS hXP hFA hLE, cI G hDO 500 aDO] → va_S A s.heap H locs → lv_has ls 4 [(0, .ref hMO), (1, .int v1), (2, .int v2)] → W p l e rm_MO_undo s m args below meth c H locs 0 0 (MQ below (gQi G (fun (r : Int32) (u : Int32 × Int32 × Int32 × Int32 × Int64 × Int32) => post r u.1 u.2.1 u.2.2.1 u.2.2.2.1 u.2.2.2.2.1 u.2.2.2.2.2) (fun (u : Int32 × Int32 × Int32 × Int32 × Int64 × Int32) => [cMO hMO u.1 mo_size hTM mo_isBoard mo_width mo_height u.2.1 u.2.2.1 u.2.2.2.1 mo_floor mo_goals u.2.2.2.2.1 mo_newFloor mo_newGoals mo_newBoxes mo_newPerson mo_newWidth u.2.2.2.2.2 hDO mo_many mo_taken mo_length hXB hXC hXF hXY hXS hXP hFA hLE, cI G hDO 500 aDO]) A) args s 0 0 A) (F0 m 92 ls []) := by
  intro mo_thrown mo_person mo_moves mo_pushes mo_boxes mo_kept v1 v2 H locs ls h hP hD hS hl
  unfold MO_undo_92 at h
  refine lv_aload_n X.1 X.2.1 dX6_undo_92 rfl (lv_at hl 0 rfl) ?_
  refine lv_aload_n X.1 X.2.1 dX6_undo_93 rfl (lv_at hl 0 rfl) ?_
  refine lv_aload_n X.1 X.2.1 dX6_undo_94 rfl (lv_at hl 0 rfl) ?_
  refine g_get X hP 0 6 6 (v := .int mo_person) rfl rfl inX6 (by decide) fl_X6_100 rfl dX6_undo_95 ?_
  refine lv_aload_n X.1 X.2.1 dX6_undo_98 rfl (lv_at hl 0 rfl) ?_
  refine lv_iload_n X.1 X.2.1 dX6_undo_99 rfl (lv_at hl 1 rfl) ?_
  refine g_ci (wr := [cI G hDO 500 aDO]) X [0] [1] (g_rV (As := [.int v1]) (rest := [.int mo_person, .ref hMO, .ref hMO]) X (c_MO_against l G hMO hTM hDO hXB hXC hXF hXY hXS hXP hFA hLE mo_thrown mo_size mo_isBoard mo_width mo_height mo_person mo_moves mo_pushes mo_floor mo_goals mo_boxes mo_newFloor mo_newGoals mo_newBoxes mo_newPerson mo_newWidth mo_kept mo_many mo_taken mo_length v1 _ h _) lk_X6_126 rfl rfl ⟨Nat.le_of_ble_eq_true rfl, Nat.le_of_ble_eq_true rfl⟩ hP hD hS [0] rfl rfl 0 6 rfl rfl rfl hl.1 rfl (Nat.le_of_ble_eq_true rfl) dX6_undo_100 ⟨Nat.le_of_ble_eq_true rfl, Nat.le_of_ble_eq_true rfl⟩) hP hD hS rfl rfl rfl (by decide) (fun r_1 u H locs h hP hD hS => ?_)
  try dsimp only at h
  replace hP := hP.sub (ws' := [cMO hMO mo_thrown mo_size hTM mo_isBoard mo_width mo_height mo_person mo_moves mo_pushes mo_floor mo_goals mo_boxes mo_newFloor mo_newGoals mo_newBoxes mo_newPerson mo_newWidth mo_kept hDO mo_many mo_taken mo_length hXB hXC hXF hXY hXS hXP hFA hLE, cI G hDO 500 aDO]) [1, 0] rfl
  replace hD := hD.sub (ws' := [cMO hMO mo_thrown mo_size hTM mo_isBoard mo_width mo_height mo_person mo_moves mo_pushes mo_floor mo_goals mo_boxes mo_newFloor mo_newGoals mo_newBoxes mo_newPerson mo_newWidth mo_kept hDO mo_many mo_taken mo_length hXB hXC hXF hXY hXS hXP hFA hLE, cI G hDO 500 aDO]) [1, 0] rfl rfl
  refine g_ci (wr := [cI G hDO 500 aDO]) X [0] [1] (g_rV (As := [.int mo_person, .int r_1]) (rest := [.ref hMO]) X (c_MO_beside l G hMO hTM hDO hXB hXC hXF hXY hXS hXP hFA hLE mo_thrown mo_size mo_isBoard mo_width mo_height mo_person mo_moves mo_pushes mo_floor mo_goals mo_boxes mo_newFloor mo_newGoals mo_newBoxes mo_newPerson mo_newWidth mo_kept mo_many mo_taken mo_length mo_person r_1 _ h _) lk_X6_112 rfl rfl ⟨Nat.le_of_ble_eq_true rfl, Nat.le_of_ble_eq_true rfl⟩ hP hD hS [0] rfl rfl 0 6 rfl rfl rfl hl.1 rfl (Nat.le_of_ble_eq_true rfl) dX6_undo_103 ⟨Nat.le_of_ble_eq_true rfl, Nat.le_of_ble_eq_true rfl⟩) hP hD hS rfl rfl rfl (by decide) (fun r_2 u H locs h hP hD hS => ?_)
  try dsimp only at h
  replace hP := hP.sub (ws' := [cMO hMO mo_thrown mo_size hTM mo_isBoard mo_width mo_height mo_person mo_moves mo_pushes mo_floor mo_goals mo_boxes mo_newFloor mo_newGoals mo_newBoxes mo_newPerson mo_newWidth mo_kept hDO mo_many mo_taken mo_length hXB hXC hXF hXY hXS hXP hFA hLE, cI G hDO 500 aDO]) [1, 0] rfl
  replace hD := hD.sub (ws' := [cMO hMO mo_thrown mo_size hTM mo_isBoard mo_width mo_height mo_person mo_moves mo_pushes mo_floor mo_goals mo_boxes mo_newFloor mo_newGoals mo_newBoxes mo_newPerson mo_newWidth mo_kept hDO mo_many mo_taken mo_length hXB hXC hXF hXY hXS hXP hFA hLE, cI G hDO 500 aDO]) [1, 0] rfl rfl
  refine g_put X hP hD hS 0 6 6 (v := .int r_2) rfl rfl inX6 tyX6 tyX6_ok nmX6 (by decide) fl_X6_100 rfl rfl rfl rfl (Nat.le_of_ble_eq_true rfl) dX6_undo_106 (fun H locs hP hD hS => ?_)
  replace hP : va_P G.1 gCl [cMO hMO mo_thrown mo_size hTM mo_isBoard mo_width mo_height r_2 mo_moves mo_pushes mo_floor mo_goals mo_boxes mo_newFloor mo_newGoals mo_newBoxes mo_newPerson mo_newWidth mo_kept hDO mo_many mo_taken mo_length hXB hXC hXF hXY hXS hXP hFA hLE, cI G hDO 500 aDO] H := hP
  replace hD : va_D A [cMO hMO mo_thrown mo_size hTM mo_isBoard mo_width mo_height r_2 mo_moves mo_pushes mo_floor mo_goals mo_boxes mo_newFloor mo_newGoals mo_newBoxes mo_newPerson mo_newWidth mo_kept hDO mo_many mo_taken mo_length hXB hXC hXF hXY hXS hXP hFA hLE, cI G hDO 500 aDO] := hD
  refine lv_aload_n X.1 X.2.1 dX6_undo_109 rfl (lv_at hl 0 rfl) ?_
  refine lv_dup X.1 X.2.1 dX6_undo_110 rfl ?_
  refine g_get X hP 0 6 7 (v := .int mo_moves) rfl rfl inX6 (by decide) fl_X6_103 rfl dX6_undo_111 ?_
  refine lv_iconst (v := (1 : Int32)) X.1 X.2.1 dX6_undo_114 (by decide) ?_
  refine lv_isub X.1 X.2.1 dX6_undo_115 ?_
  refine lv_topi (fun mo_moves_3 e_mo_moves_3 => ?_)
  replace h := h mo_moves_3 e_mo_moves_3
  refine g_put X hP hD hS 0 6 7 (v := .int mo_moves_3) rfl rfl inX6 tyX6 tyX6_ok nmX6 (by decide) fl_X6_103 rfl rfl rfl rfl (Nat.le_of_ble_eq_true rfl) dX6_undo_116 (fun H locs hP hD hS => ?_)
  replace hP : va_P G.1 gCl [cMO hMO mo_thrown mo_size hTM mo_isBoard mo_width mo_height r_2 mo_moves_3 mo_pushes mo_floor mo_goals mo_boxes mo_newFloor mo_newGoals mo_newBoxes mo_newPerson mo_newWidth mo_kept hDO mo_many mo_taken mo_length hXB hXC hXF hXY hXS hXP hFA hLE, cI G hDO 500 aDO] H := hP
  replace hD : va_D A [cMO hMO mo_thrown mo_size hTM mo_isBoard mo_width mo_height r_2 mo_moves_3 mo_pushes mo_floor mo_goals mo_boxes mo_newFloor mo_newGoals mo_newBoxes mo_newPerson mo_newWidth mo_kept hDO mo_many mo_taken mo_length hXB hXC hXF hXY hXS hXP hFA hLE, cI G hDO 500 aDO] := hD
  refine lv_aload_n X.1 X.2.1 dX6_undo_119 rfl (lv_at hl 0 rfl) ?_
  refine lv_dup X.1 X.2.1 dX6_undo_120 rfl ?_
  refine g_get X hP 0 6 8 (v := .int mo_pushes) rfl rfl inX6 (by decide) fl_X6_106 rfl dX6_undo_121 ?_
  refine lv_iload_n X.1 X.2.1 dX6_undo_124 rfl (lv_at hl 2 rfl) ?_
  refine lv_if_eq (tgt := 132) X.1 X.2.1 dX6_undo_125 (by decide) (fun hc => ?_) (fun hc => ?_)
  · replace h := Eq.mp (if_pos hc) h
    refine lv_iconst (v := (0 : Int32)) X.1 X.2.1 dX6_undo_132 (by decide) ?_
    exact s_MO_undo_133 X  mo_thrown r_2 mo_moves_3 mo_pushes mo_boxes mo_kept v2 mo_pushes (0 : Int32) _ _ _ h hP hD hS (lv_sub hl [0, 2] rfl)
  · replace h := Eq.mp (if_neg hc) h
    refine lv_iconst (v := (1 : Int32)) X.1 X.2.1 dX6_undo_128 (by decide) ?_
    refine lv_goto (tgt := 133) X.1 X.2.1 dX6_undo_129 (by decide) ?_
    exact s_MO_undo_133 X  mo_thrown r_2 mo_moves_3 mo_pushes mo_boxes mo_kept v2 mo_pushes (1 : Int32) _ _ _ h hP hD hS (lv_sub hl [0, 2] rfl)
set_option maxHeartbeats 4000000 in
set_option maxRecDepth 100000 in
theorem s_MO_undo_54 {p : Program} {l : Launch} {e : Env} {s : State} {m : MethodId} {args : Array Value} {below : List Frame} {meth : Method} {c : Code} {G : gEnv} {A : Nat → Prop} {hMO : Nat} {hTM : Nat} {hDO : Nat} {hXB : Nat} {hXC : Nat} {hXF : Nat} {hXY : Nat} {hXS : Nat} {hXP : Nat} {hFA : Nat} {hLE : Nat} {mo_size : Int32} {mo_isBoard : Int32} {mo_floor : Int64} {mo_goals : Int64} {mo_newFloor : Int64} {mo_newGoals : Int64} {mo_newBoxes : Int64} {mo_newPerson : Int32} {mo_newWidth : Int32} {mo_many : Int32} {mo_taken : Int32} {mo_length : Int32} {mo_width : Int32} {mo_height : Int32} {aDO : Nat → Int32} {post : Int32 → Int32 → Int32 → Int32 → Int32 → Int64 → Int32 → Prop} (X : gX p m meth c cX6_undo 4 RX6 (some .int) s args G A)  : ∀ (mo_thrown : Int32) (mo_person : Int32) (mo_moves : Int32) (mo_pushes : Int32) (mo_boxes : Int64) (mo_kept : Int32) (v1 : Int32) (t0 : Int32) (H : Heap) (locs : List Loc) (ls : Array Slot), MO_undo_54 mo_width mo_height aDO post mo_thrown mo_person mo_moves mo_pushes mo_boxes mo_kept v1 t0 → va_P G.1 gCl [cMO hMO mo_thrown mo_size hTM mo_isBoard mo_width mo_height mo_person mo_moves mo_pushes mo_floor mo_goals mo_boxes mo_newFloor mo_newGoals mo_newBoxes mo_newPerson mo_newWidth mo_kept hDO mo_many mo_taken mo_length hXB hXC hXF hXY hXS hXP hFA hLE, cI G hDO 500 aDO] H → va_D A [cMO hMO mo_thrown mo_size hTM mo_isBoard mo_width mo_height mo_person mo_moves mo_pushes mo_floor mo_goals mo_boxes mo_newFloor mo_newGoals mo_newBoxes mo_newPerson mo_newWidth mo_kept hDO mo_many mo_taken mo_length hXB hXC hXF hXY hXS hXP hFA hLE, cI G hDO 500 aDO] → va_S A s.heap H locs → lv_has ls 4 [(0, .ref hMO), (1, .int v1)] → W p l e rm_MO_undo s m args below meth c H locs 0 0 (MQ below (gQi G (fun (r : Int32) (u : Int32 × Int32 × Int32 × Int32 × Int64 × Int32) => post r u.1 u.2.1 u.2.2.1 u.2.2.2.1 u.2.2.2.2.1 u.2.2.2.2.2) (fun (u : Int32 × Int32 × Int32 × Int32 × Int64 × Int32) => [cMO hMO u.1 mo_size hTM mo_isBoard mo_width mo_height u.2.1 u.2.2.1 u.2.2.2.1 mo_floor mo_goals u.2.2.2.2.1 mo_newFloor mo_newGoals mo_newBoxes mo_newPerson mo_newWidth u.2.2.2.2.2 hDO mo_many mo_taken mo_length hXB hXC hXF hXY hXS hXP hFA hLE, cI G hDO 500 aDO]) A) args s 0 0 A) (F0 m 54 ls [.int t0]) := by
  intro mo_thrown mo_person mo_moves mo_pushes mo_boxes mo_kept v1 t0 H locs ls h hP hD hS hl
  unfold MO_undo_54 at h
  refine lv_istore_n (lv' := [(2, .int t0), (0, .ref hMO), (1, .int v1)]) X.1 X.2.1 dX6_undo_54 rfl hl (by decide) rfl (fun ls hl => ?_)
  refine lv_iload_n X.1 X.2.1 dX6_undo_55 rfl (lv_at hl 0 rfl) ?_
  refine lv_if_eq (tgt := 92) X.1 X.2.1 dX6_undo_56 (by decide) (fun hc => ?_) (fun hc => ?_)
  · replace h := Eq.mp (if_pos hc) h
    exact s_MO_undo_92 X  mo_thrown mo_person mo_moves mo_pushes mo_boxes mo_kept v1 t0 _ _ _ h hP hD hS (lv_sub hl [1, 2, 0] rfl)
  · replace h := Eq.mp (if_neg hc) h
    refine lv_aload_n X.1 X.2.1 dX6_undo_59 rfl (lv_at hl 1 rfl) ?_
    refine lv_aload_n X.1 X.2.1 dX6_undo_60 rfl (lv_at hl 1 rfl) ?_
    refine g_get X hP 0 6 6 (v := .int mo_person) rfl rfl inX6 (by decide) fl_X6_100 rfl dX6_undo_61 ?_
    refine lv_iload_n X.1 X.2.1 dX6_undo_64 rfl (lv_at hl 2 rfl) ?_
    refine g_ci (wr := [cI G hDO 500 aDO]) X [0] [1] (g_rV (As := [.int mo_person, .int v1]) (rest := []) X (c_MO_beside l G hMO hTM hDO hXB hXC hXF hXY hXS hXP hFA hLE mo_thrown mo_size mo_isBoard mo_width mo_height mo_person mo_moves mo_pushes mo_floor mo_goals mo_boxes mo_newFloor mo_newGoals mo_newBoxes mo_newPerson mo_newWidth mo_kept mo_many mo_taken mo_length mo_person v1 _ h _) lk_X6_112 rfl rfl ⟨Nat.le_of_ble_eq_true rfl, Nat.le_of_ble_eq_true rfl⟩ hP hD hS [0] rfl rfl 0 6 rfl rfl rfl hl.1 rfl (Nat.le_of_ble_eq_true rfl) dX6_undo_65 ⟨Nat.le_of_ble_eq_true rfl, Nat.le_of_ble_eq_true rfl⟩) hP hD hS rfl rfl rfl (by decide) (fun r_1 u H locs h hP hD hS => ?_)
    try dsimp only at h
    replace hP := hP.sub (ws' := [cMO hMO mo_thrown mo_size hTM mo_isBoard mo_width mo_height mo_person mo_moves mo_pushes mo_floor mo_goals mo_boxes mo_newFloor mo_newGoals mo_newBoxes mo_newPerson mo_newWidth mo_kept hDO mo_many mo_taken mo_length hXB hXC hXF hXY hXS hXP hFA hLE, cI G hDO 500 aDO]) [1, 0] rfl
    replace hD := hD.sub (ws' := [cMO hMO mo_thrown mo_size hTM mo_isBoard mo_width mo_height mo_person mo_moves mo_pushes mo_floor mo_goals mo_boxes mo_newFloor mo_newGoals mo_newBoxes mo_newPerson mo_newWidth mo_kept hDO mo_many mo_taken mo_length hXB hXC hXF hXY hXS hXP hFA hLE, cI G hDO 500 aDO]) [1, 0] rfl rfl
    refine lv_istore_n (lv' := [(3, .int r_1), (2, .int t0), (0, .ref hMO), (1, .int v1)]) X.1 X.2.1 dX6_undo_68 rfl hl (by decide) rfl (fun ls hl => ?_)
    refine lv_aload_n X.1 X.2.1 dX6_undo_69 rfl (lv_at hl 2 rfl) ?_
    refine lv_aload_n X.1 X.2.1 dX6_undo_70 rfl (lv_at hl 2 rfl) ?_
    refine g_get X hP 0 6 11 (v := .long mo_boxes) rfl rfl inX6 (by decide) fl_X6_97 rfl dX6_undo_71 ?_
    refine lv_lconst (v := (1 : Int64)) X.1 X.2.1 dX6_undo_74 (by decide) ?_
    refine lv_iload_n X.1 X.2.1 dX6_undo_75 rfl (lv_at hl 0 rfl) ?_
    refine lv_lshl X.1 X.2.1 dX6_undo_76 rfl ?_
    refine lv_ldc2 (v := (-1 : Int64)) X.1 X.2.1 X.2.2.2.1 (X.2.2.2.2.1 _ cn_X6_116) dX6_undo_77 ?_
    refine lv_lxor X.1 X.2.1 dX6_undo_80 ?_
    refine lv_land X.1 X.2.1 dX6_undo_81 ?_
    refine lv_lconst (v := (1 : Int64)) X.1 X.2.1 dX6_undo_82 (by decide) ?_
    refine lv_aload_n X.1 X.2.1 dX6_undo_83 rfl (lv_at hl 2 rfl) ?_
    refine g_get X hP 0 6 6 (v := .int mo_person) rfl rfl inX6 (by decide) fl_X6_100 rfl dX6_undo_84 ?_
    refine lv_lshl X.1 X.2.1 dX6_undo_87 rfl ?_
    refine lv_lor X.1 X.2.1 dX6_undo_88 ?_
    refine lv_topl (fun mo_boxes_2 e_mo_boxes_2 => ?_)
    replace h := h mo_boxes_2 e_mo_boxes_2
    refine g_put X hP hD hS 0 6 11 (v := .long mo_boxes_2) rfl rfl inX6 tyX6 tyX6_ok nmX6 (by decide) fl_X6_97 rfl rfl rfl rfl (Nat.le_of_ble_eq_true rfl) dX6_undo_89 (fun H locs hP hD hS => ?_)
    replace hP : va_P G.1 gCl [cMO hMO mo_thrown mo_size hTM mo_isBoard mo_width mo_height mo_person mo_moves mo_pushes mo_floor mo_goals mo_boxes_2 mo_newFloor mo_newGoals mo_newBoxes mo_newPerson mo_newWidth mo_kept hDO mo_many mo_taken mo_length hXB hXC hXF hXY hXS hXP hFA hLE, cI G hDO 500 aDO] H := hP
    replace hD : va_D A [cMO hMO mo_thrown mo_size hTM mo_isBoard mo_width mo_height mo_person mo_moves mo_pushes mo_floor mo_goals mo_boxes_2 mo_newFloor mo_newGoals mo_newBoxes mo_newPerson mo_newWidth mo_kept hDO mo_many mo_taken mo_length hXB hXC hXF hXY hXS hXP hFA hLE, cI G hDO 500 aDO] := hD
    exact s_MO_undo_92 X  mo_thrown mo_person mo_moves mo_pushes mo_boxes_2 mo_kept v1 t0 _ _ _ h hP hD hS (lv_sub hl [2, 3, 1] rfl)
set_option maxHeartbeats 4000000 in
set_option maxRecDepth 100000 in
theorem c_MO_undo (l : Launch) (G : gEnv) (hMO : Nat) (hTM : Nat) (hDO : Nat) (hXB : Nat) (hXC : Nat) (hXF : Nat) (hXY : Nat) (hXS : Nat) (hXP : Nat) (hFA : Nat) (hLE : Nat) (mo_thrown : Int32) (mo_size : Int32) (mo_isBoard : Int32) (mo_width : Int32) (mo_height : Int32) (mo_person : Int32) (mo_moves : Int32) (mo_pushes : Int32) (mo_floor : Int64) (mo_goals : Int64) (mo_boxes : Int64) (mo_newFloor : Int64) (mo_newGoals : Int64) (mo_newBoxes : Int64) (mo_newPerson : Int32) (mo_newWidth : Int32) (mo_kept : Int32) (mo_many : Int32) (mo_taken : Int32) (mo_length : Int32) (aDO : Nat → Int32) (post : Int32 → Int32 → Int32 → Int32 → Int32 → Int64 → Int32 → Prop) (h : MO_undo mo_width mo_height aDO mo_thrown mo_person mo_moves mo_pushes mo_boxes mo_kept post) (sz : Nat) : Met l yX6_undo (Cond.code yX6_undo cX6_undo 4 (some .int) :: wAll) (rm_MO_undo) (gPc G [.ref hMO] [cMO hMO mo_thrown mo_size hTM mo_isBoard mo_width mo_height mo_person mo_moves mo_pushes mo_floor mo_goals mo_boxes mo_newFloor mo_newGoals mo_newBoxes mo_newPerson mo_newWidth mo_kept hDO mo_many mo_taken mo_length hXB hXC hXF hXY hXS hXP hFA hLE, cI G hDO 500 aDO] sz) (gQi G (fun (r : Int32) (u : Int32 × Int32 × Int32 × Int32 × Int64 × Int32) => post r u.1 u.2.1 u.2.2.1 u.2.2.2.1 u.2.2.2.2.1 u.2.2.2.2.2) (fun (u : Int32 × Int32 × Int32 × Int32 × Int64 × Int32) => [cMO hMO u.1 mo_size hTM mo_isBoard mo_width mo_height u.2.1 u.2.2.1 u.2.2.2.1 mo_floor mo_goals u.2.2.2.2.1 mo_newFloor mo_newGoals mo_newBoxes mo_newPerson mo_newWidth u.2.2.2.2.2 hDO mo_many mo_taken mo_length hXB hXC hXF hXY hXS hXP hFA hLE, cI G hDO 500 aDO]) (va_A [cMO hMO mo_thrown mo_size hTM mo_isBoard mo_width mo_height mo_person mo_moves mo_pushes mo_floor mo_goals mo_boxes mo_newFloor mo_newGoals mo_newBoxes mo_newPerson mo_newWidth mo_kept hDO mo_many mo_taken mo_length hXB hXC hXF hXY hXS hXP hFA hLE, cI G hDO 500 aDO] sz)) 0 0 (va_A [cMO hMO mo_thrown mo_size hTM mo_isBoard mo_width mo_height mo_person mo_moves mo_pushes mo_floor mo_goals mo_boxes mo_newFloor mo_newGoals mo_newBoxes mo_newPerson mo_newWidth mo_kept hDO mo_many mo_taken mo_length hXB hXC hXF hXY hXS hXP hFA hLE, cI G hDO 500 aDO] sz) := by
  refine Met.ofW (cc := cX6_undo) (maxL := 4) (ret := (some .int)) (by decide) rfl ?_
  intro p e s m args below meth c s₁ B hml hv
  obtain ⟨rfl, hsz, hP, hK, hD0⟩ := hv
  subst hsz
  have X := gX.ofB (ws := [cMO hMO mo_thrown mo_size hTM mo_isBoard mo_width mo_height mo_person mo_moves mo_pushes mo_floor mo_goals mo_boxes mo_newFloor mo_newGoals mo_newBoxes mo_newPerson mo_newWidth mo_kept hDO mo_many mo_taken mo_length hXB hXC hXF hXY hXS hXP hFA hLE, cI G hDO 500 aDO]) B hml hK hD0
  have hD := hD0.self (sz := s.heap.size)
  generalize hAe : va_A [cMO hMO mo_thrown mo_size hTM mo_isBoard mo_width mo_height mo_person mo_moves mo_pushes mo_floor mo_goals mo_boxes mo_newFloor mo_newGoals mo_newBoxes mo_newPerson mo_newWidth mo_kept hDO mo_many mo_taken mo_length hXB hXC hXF hXY hXS hXP hFA hLE, cI G hDO 500 aDO] s.heap.size = A at X hD ⊢
  have hS : va_S A s.heap s.heap [] := va_S.rf
  have hl := lv_entry ([.ref hMO]) (n := 4) (Nat.le_of_ble_eq_true rfl)
  rw [lg_entry_eq]
  generalize (lg_sl ([.ref hMO]) ++ List.replicate (4 - (lg_sl ([.ref hMO])).length) Slot.unset).toArray = ls at hl ⊢
  have hl : lv_has ls 4 [(0, .ref hMO)] := hl
  dsimp only [headSpec]
  unfold MO_undo at h
  refine lv_aload_n X.1 X.2.1 dX6_undo_0 rfl (lv_at hl 0 rfl) ?_
  refine lv_iconst (v := (0 : Int32)) X.1 X.2.1 dX6_undo_1 (by decide) ?_
  refine g_put X hP hD hS 0 6 0 (v := .int (0 : Int32)) rfl rfl inX6 tyX6 tyX6_ok nmX6 (by decide) fl_X6_42 rfl rfl rfl rfl (Nat.le_of_ble_eq_true rfl) dX6_undo_2 (fun H locs hP hD hS => ?_)
  replace hP : va_P G.1 gCl [cMO hMO (0 : Int32) mo_size hTM mo_isBoard mo_width mo_height mo_person mo_moves mo_pushes mo_floor mo_goals mo_boxes mo_newFloor mo_newGoals mo_newBoxes mo_newPerson mo_newWidth mo_kept hDO mo_many mo_taken mo_length hXB hXC hXF hXY hXS hXP hFA hLE, cI G hDO 500 aDO] H := hP
  replace hD : va_D A [cMO hMO (0 : Int32) mo_size hTM mo_isBoard mo_width mo_height mo_person mo_moves mo_pushes mo_floor mo_goals mo_boxes mo_newFloor mo_newGoals mo_newBoxes mo_newPerson mo_newWidth mo_kept hDO mo_many mo_taken mo_length hXB hXC hXF hXY hXS hXP hFA hLE, cI G hDO 500 aDO] := hD
  refine lv_aload_n X.1 X.2.1 dX6_undo_5 rfl (lv_at hl 0 rfl) ?_
  refine g_get X hP 0 6 17 (v := .int mo_kept) rfl rfl inX6 (by decide) fl_X6_109 rfl dX6_undo_6 ?_
  refine lv_if_ne (tgt := 14) X.1 X.2.1 dX6_undo_9 (by decide) (fun hc => ?_) (fun hc => ?_)
  · replace h := Eq.mp (if_neg hc) h
    refine lv_aload_n X.1 X.2.1 dX6_undo_14 rfl (lv_at hl 0 rfl) ?_
    refine lv_dup X.1 X.2.1 dX6_undo_15 rfl ?_
    refine g_get X hP 0 6 17 (v := .int mo_kept) rfl rfl inX6 (by decide) fl_X6_109 rfl dX6_undo_16 ?_
    refine lv_iconst (v := (1 : Int32)) X.1 X.2.1 dX6_undo_19 (by decide) ?_
    refine lv_isub X.1 X.2.1 dX6_undo_20 ?_
    refine lv_topi (fun mo_kept_1 e_mo_kept_1 => ?_)
    replace h := h mo_kept_1 e_mo_kept_1
    refine g_put X hP hD hS 0 6 17 (v := .int mo_kept_1) rfl rfl inX6 tyX6 tyX6_ok nmX6 (by decide) fl_X6_109 rfl rfl rfl rfl (Nat.le_of_ble_eq_true rfl) dX6_undo_21 (fun H locs hP hD hS => ?_)
    replace hP : va_P G.1 gCl [cMO hMO (0 : Int32) mo_size hTM mo_isBoard mo_width mo_height mo_person mo_moves mo_pushes mo_floor mo_goals mo_boxes mo_newFloor mo_newGoals mo_newBoxes mo_newPerson mo_newWidth mo_kept_1 hDO mo_many mo_taken mo_length hXB hXC hXF hXY hXS hXP hFA hLE, cI G hDO 500 aDO] H := hP
    replace hD : va_D A [cMO hMO (0 : Int32) mo_size hTM mo_isBoard mo_width mo_height mo_person mo_moves mo_pushes mo_floor mo_goals mo_boxes mo_newFloor mo_newGoals mo_newBoxes mo_newPerson mo_newWidth mo_kept_1 hDO mo_many mo_taken mo_length hXB hXC hXF hXY hXS hXP hFA hLE, cI G hDO 500 aDO] := hD
    refine lv_aload_n X.1 X.2.1 dX6_undo_24 rfl (lv_at hl 0 rfl) ?_
    refine g_get X hP 0 6 18 (v := .ref hDO) rfl rfl inX6 (by decide) fl_X6_13 rfl dX6_undo_25 ?_
    refine lv_aload_n X.1 X.2.1 dX6_undo_28 rfl (lv_at hl 0 rfl) ?_
    refine g_get X hP 0 6 17 (v := .int mo_kept_1) rfl rfl inX6 (by decide) fl_X6_109 rfl dX6_undo_29 ?_
    obtain ⟨hin, h⟩ := h
    refine va_iald (D := G.1) X.1 X.2.1 X.k.1 hP 1 0 rfl rfl hin dX6_undo_32 ?_
    refine lv_iconst (v := (4 : Int32)) X.1 X.2.1 dX6_undo_33 (by decide) ?_
    refine lv_irem X.1 X.2.1 dX6_undo_34 (by decide) ?_
    refine lv_topi (fun v1_2 e_v1_2 => ?_)
    replace h := h v1_2 e_v1_2
    refine lv_istore_n (lv' := [(1, .int v1_2), (0, .ref hMO)]) X.1 X.2.1 dX6_undo_35 rfl hl (by decide) rfl (fun ls hl => ?_)
    refine lv_aload_n X.1 X.2.1 dX6_undo_36 rfl (lv_at hl 1 rfl) ?_
    refine g_get X hP 0 6 18 (v := .ref hDO) rfl rfl inX6 (by decide) fl_X6_13 rfl dX6_undo_37 ?_
    refine lv_aload_n X.1 X.2.1 dX6_undo_40 rfl (lv_at hl 1 rfl) ?_
    refine g_get X hP 0 6 17 (v := .int mo_kept_1) rfl rfl inX6 (by decide) fl_X6_109 rfl dX6_undo_41 ?_
    obtain ⟨hin, h⟩ := h
    refine va_iald (D := G.1) X.1 X.2.1 X.k.1 hP 1 0 rfl rfl hin dX6_undo_44 ?_
    refine lv_iconst (v := (3 : Int32)) X.1 X.2.1 dX6_undo_45 (by decide) ?_
    refine lv_icmp_le (tgt := 53) X.1 X.2.1 dX6_undo_46 (by decide) (fun hc => ?_) (fun hc => ?_)
    · replace h := Eq.mp (if_pos hc) h
      refine lv_iconst (v := (0 : Int32)) X.1 X.2.1 dX6_undo_53 (by decide) ?_
      exact s_MO_undo_54 X  (0 : Int32) mo_person mo_moves mo_pushes mo_boxes mo_kept_1 v1_2 (0 : Int32) _ _ _ h hP hD hS (lv_sub hl [1, 0] rfl)
    · replace h := Eq.mp (if_neg hc) h
      refine lv_iconst (v := (1 : Int32)) X.1 X.2.1 dX6_undo_49 (by decide) ?_
      refine lv_goto (tgt := 54) X.1 X.2.1 dX6_undo_50 (by decide) ?_
      exact s_MO_undo_54 X  (0 : Int32) mo_person mo_moves mo_pushes mo_boxes mo_kept_1 v1_2 (1 : Int32) _ _ _ h hP hD hS (lv_sub hl [1, 0] rfl)
  · replace h := Eq.mp (if_pos hc) h
    refine lv_iconst (v := (0 : Int32)) X.1 X.2.1 dX6_undo_12 (by decide) ?_
    exact g_iret X ((0 : Int32), mo_person, mo_moves, mo_pushes, mo_boxes, mo_kept) h hP hD hS dX6_undo_13
abbrev rm_MO_wayOf : Room := { frames := 0, cells := 0, slots := 0, locals := 0 }
set_option maxHeartbeats 4000000 in
set_option maxRecDepth 100000 in
theorem c_MO_wayOf (l : Launch) (G : gEnv) (v0 : Int32) (post : Int32 → Prop) (h : MO_wayOf v0 post) (sz : Nat) : Met l yX6_wayOf (Cond.code yX6_wayOf cX6_wayOf 1 (some .int) :: wAll) (rm_MO_wayOf) (gPc G [.int v0] [] sz) (gQi G (fun (r : Int32) (u : Unit) => post r ) (fun (u : Unit) => []) (va_A [] sz)) 0 0 (va_A [] sz) := by
  refine Met.ofW (cc := cX6_wayOf) (maxL := 1) (ret := (some .int)) (by decide) rfl ?_
  intro p e s m args below meth c s₁ B hml hv
  obtain ⟨rfl, hsz, hP, hK, hD0⟩ := hv
  subst hsz
  have X := gX.ofB (ws := []) B hml hK hD0
  have hD := hD0.self (sz := s.heap.size)
  generalize hAe : va_A [] s.heap.size = A at X hD ⊢
  have hS : va_S A s.heap s.heap [] := va_S.rf
  have hl := lv_entry ([.int v0]) (n := 1) (Nat.le_of_ble_eq_true rfl)
  rw [lg_entry_eq]
  generalize (lg_sl ([.int v0]) ++ List.replicate (1 - (lg_sl ([.int v0])).length) Slot.unset).toArray = ls at hl ⊢
  have hl : lv_has ls 1 [(0, .int v0)] := hl
  dsimp only [headSpec]
  unfold MO_wayOf at h
  refine lv_iload_n X.1 X.2.1 dX6_wayOf_0 rfl (lv_at hl 0 rfl) ?_
  by_cases hc0 : v0 = (68 : Int32)
  · replace h := Eq.mp (if_pos hc0) h
    refine lv_lookup (tgt := 78) X.1 X.2.1 dX6_wayOf_1 (by decide) (by rw [hc0] <;> rfl) (by decide) ?_
    refine lv_iconst (v := (1 : Int32)) X.1 X.2.1 dX6_wayOf_78 (by decide) ?_
    exact g_iret X () h hP hD hS dX6_wayOf_79
  replace h := Eq.mp (if_neg hc0) h
  by_cases hc1 : v0 = (76 : Int32)
  · replace h := Eq.mp (if_pos hc1) h
    refine lv_lookup (tgt := 80) X.1 X.2.1 dX6_wayOf_1 (by decide) (by rw [hc1] <;> rfl) (by decide) ?_
    refine lv_iconst (v := (2 : Int32)) X.1 X.2.1 dX6_wayOf_80 (by decide) ?_
    exact g_iret X () h hP hD hS dX6_wayOf_81
  replace h := Eq.mp (if_neg hc1) h
  by_cases hc2 : v0 = (82 : Int32)
  · replace h := Eq.mp (if_pos hc2) h
    refine lv_lookup (tgt := 76) X.1 X.2.1 dX6_wayOf_1 (by decide) (by rw [hc2] <;> rfl) (by decide) ?_
    refine lv_iconst (v := (0 : Int32)) X.1 X.2.1 dX6_wayOf_76 (by decide) ?_
    exact g_iret X () h hP hD hS dX6_wayOf_77
  replace h := Eq.mp (if_neg hc2) h
  by_cases hc3 : v0 = (85 : Int32)
  · replace h := Eq.mp (if_pos hc3) h
    refine lv_lookup (tgt := 82) X.1 X.2.1 dX6_wayOf_1 (by decide) (by rw [hc3] <;> rfl) (by decide) ?_
    refine lv_iconst (v := (3 : Int32)) X.1 X.2.1 dX6_wayOf_82 (by decide) ?_
    exact g_iret X () h hP hD hS dX6_wayOf_83
  replace h := Eq.mp (if_neg hc3) h
  by_cases hc4 : v0 = (100 : Int32)
  · replace h := Eq.mp (if_pos hc4) h
    refine lv_lookup (tgt := 78) X.1 X.2.1 dX6_wayOf_1 (by decide) (by rw [hc4] <;> rfl) (by decide) ?_
    refine lv_iconst (v := (1 : Int32)) X.1 X.2.1 dX6_wayOf_78 (by decide) ?_
    exact g_iret X () h hP hD hS dX6_wayOf_79
  replace h := Eq.mp (if_neg hc4) h
  by_cases hc5 : v0 = (108 : Int32)
  · replace h := Eq.mp (if_pos hc5) h
    refine lv_lookup (tgt := 80) X.1 X.2.1 dX6_wayOf_1 (by decide) (by rw [hc5] <;> rfl) (by decide) ?_
    refine lv_iconst (v := (2 : Int32)) X.1 X.2.1 dX6_wayOf_80 (by decide) ?_
    exact g_iret X () h hP hD hS dX6_wayOf_81
  replace h := Eq.mp (if_neg hc5) h
  by_cases hc6 : v0 = (114 : Int32)
  · replace h := Eq.mp (if_pos hc6) h
    refine lv_lookup (tgt := 76) X.1 X.2.1 dX6_wayOf_1 (by decide) (by rw [hc6] <;> rfl) (by decide) ?_
    refine lv_iconst (v := (0 : Int32)) X.1 X.2.1 dX6_wayOf_76 (by decide) ?_
    exact g_iret X () h hP hD hS dX6_wayOf_77
  replace h := Eq.mp (if_neg hc6) h
  by_cases hc7 : v0 = (117 : Int32)
  · replace h := Eq.mp (if_pos hc7) h
    refine lv_lookup (tgt := 82) X.1 X.2.1 dX6_wayOf_1 (by decide) (by rw [hc7] <;> rfl) (by decide) ?_
    refine lv_iconst (v := (3 : Int32)) X.1 X.2.1 dX6_wayOf_82 (by decide) ?_
    exact g_iret X () h hP hD hS dX6_wayOf_83
  replace h := Eq.mp (if_neg hc7) h
  refine lv_lookup (off := 83) (tgt := 84) X.1 X.2.1 dX6_wayOf_1 (by decide) ((lv_osw hc0 (by decide)).trans ((lv_osw hc1 (by decide)).trans ((lv_osw hc2 (by decide)).trans ((lv_osw hc3 (by decide)).trans ((lv_osw hc4 (by decide)).trans ((lv_osw hc5 (by decide)).trans ((lv_osw hc6 (by decide)).trans ((lv_osw hc7 (by decide)).trans rfl)))))))) (by decide) ?_
  refine lv_iconst (v := (-1 : Int32)) X.1 X.2.1 dX6_wayOf_84 (by decide) ?_
  exact g_iret X () h hP hD hS dX6_wayOf_85
abbrev rm_MO_row : Room := { frames := 3, cells := 0, slots := 0, locals := 70 }
set_option maxHeartbeats 4000000 in
set_option maxRecDepth 100000 in
theorem s_MO_row_95 {p : Program} {l : Launch} {e : Env} {s : State} {m : MethodId} {args : Array Value} {below : List Frame} {meth : Method} {c : Code} {G : gEnv} {A : Nat → Prop} {hMO : Nat} {hTM : Nat} {hDO : Nat} {hXB : Nat} {hXC : Nat} {hXF : Nat} {hXY : Nat} {hXS : Nat} {hXP : Nat} {hFA : Nat} {hLE : Nat} {mo_goals : Int64} {mo_newFloor : Int64} {mo_newGoals : Int64} {mo_newBoxes : Int64} {mo_newPerson : Int32} {mo_newWidth : Int32} {mo_many : Int32} {mo_taken : Int32} {mo_length : Int32} {mo_isBoard : Int32} {mo_width : Int32} {mo_height : Int32} {mo_floor : Int64} {aTM : Nat → Int32} {k84 : Int32 → Int32 → Int32 → Int32 → Int32 → Int64 → Int32 → (Nat → Int32) → Int32 → Int32 → Int32 → Int32 → Int32 → Int32 → Prop} {post : Int32 → Int32 → Int32 → Int32 → Int32 → Int32 → Int64 → Int32 → (Nat → Int32) → Prop} (X : gX p m meth c cX6_row 8 RX6 (some .int) s args G A) (hk84 : ∀ (mo_thrown' : Int32) (mo_size' : Int32) (mo_person' : Int32) (mo_moves' : Int32) (mo_pushes' : Int32) (mo_boxes' : Int64) (mo_kept' : Int32) (aDO' : (Nat → Int32)) (v1' : Int32) (v2' : Int32) (v3' : Int32) (v4' : Int32) (v6' : Int32) (v7' : Int32) (H : Heap) (locs : List Loc) (ls : Array Slot), k84 mo_thrown' mo_size' mo_person' mo_moves' mo_pushes' mo_boxes' mo_kept' aDO' v1' v2' v3' v4' v6' v7' → va_P G.1 gCl [cMO hMO mo_thrown' mo_size' hTM mo_isBoard mo_width mo_height mo_person' mo_moves' mo_pushes' mo_floor mo_goals mo_boxes' mo_newFloor mo_newGoals mo_newBoxes mo_newPerson mo_newWidth mo_kept' hDO mo_many mo_taken mo_length hXB hXC hXF hXY hXS hXP hFA hLE, cI G hTM 160 aTM, cI G hDO 500 aDO'] H → va_D A [cMO hMO mo_thrown' mo_size' hTM mo_isBoard mo_width mo_height mo_person' mo_moves' mo_pushes' mo_floor mo_goals mo_boxes' mo_newFloor mo_newGoals mo_newBoxes mo_newPerson mo_newWidth mo_kept' hDO mo_many mo_taken mo_length hXB hXC hXF hXY hXS hXP hFA hLE, cI G hTM 160 aTM, cI G hDO 500 aDO'] → va_S A s.heap H locs → lv_has ls 8 [(0, .ref hMO), (1, .int v1'), (2, .int v2'), (3, .int v3'), (4, .int v4'), (6, .int v6'), (7, .int v7')] → W p l e rm_MO_row s m args below meth c H locs 0 0 (MQ below (gQi G (fun (r : Int32) (u : Int32 × Int32 × Int32 × Int32 × Int32 × Int64 × Int32 × (Nat → Int32)) => post r u.1 u.2.1 u.2.2.1 u.2.2.2.1 u.2.2.2.2.1 u.2.2.2.2.2.1 u.2.2.2.2.2.2.1 u.2.2.2.2.2.2.2) (fun (u : Int32 × Int32 × Int32 × Int32 × Int32 × Int64 × Int32 × (Nat → Int32)) => [cMO hMO u.1 u.2.1 hTM mo_isBoard mo_width mo_height u.2.2.1 u.2.2.2.1 u.2.2.2.2.1 mo_floor mo_goals u.2.2.2.2.2.1 mo_newFloor mo_newGoals mo_newBoxes mo_newPerson mo_newWidth u.2.2.2.2.2.2.1 hDO mo_many mo_taken mo_length hXB hXC hXF hXY hXS hXP hFA hLE, cI G hTM 160 aTM, cI G hDO 500 u.2.2.2.2.2.2.2]) A) args s 0 0 A) (F0 m 84 ls [])) : ∀ (mo_thrown : Int32) (mo_size : Int32) (mo_person : Int32) (mo_moves : Int32) (mo_pushes : Int32) (mo_boxes : Int64) (mo_kept : Int32) (aDO : (Nat → Int32)) (v1 : Int32) (v2 : Int32) (v3 : Int32) (v4 : Int32) (v6 : Int32) (v7 : Int32) (H : Heap) (locs : List Loc) (ls : Array Slot), MO_row_95 mo_isBoard mo_width mo_height mo_floor aTM k84 post mo_thrown mo_size mo_person mo_moves mo_pushes mo_boxes mo_kept aDO v1 v2 v3 v4 v6 v7 → va_P G.1 gCl [cMO hMO mo_thrown mo_size hTM mo_isBoard mo_width mo_height mo_person mo_moves mo_pushes mo_floor mo_goals mo_boxes mo_newFloor mo_newGoals mo_newBoxes mo_newPerson mo_newWidth mo_kept hDO mo_many mo_taken mo_length hXB hXC hXF hXY hXS hXP hFA hLE, cI G hTM 160 aTM, cI G hDO 500 aDO] H → va_D A [cMO hMO mo_thrown mo_size hTM mo_isBoard mo_width mo_height mo_person mo_moves mo_pushes mo_floor mo_goals mo_boxes mo_newFloor mo_newGoals mo_newBoxes mo_newPerson mo_newWidth mo_kept hDO mo_many mo_taken mo_length hXB hXC hXF hXY hXS hXP hFA hLE, cI G hTM 160 aTM, cI G hDO 500 aDO] → va_S A s.heap H locs → lv_has ls 8 [(0, .ref hMO), (1, .int v1), (2, .int v2), (3, .int v3), (4, .int v4), (6, .int v6), (7, .int v7)] → W p l e rm_MO_row s m args below meth c H locs 0 0 (MQ below (gQi G (fun (r : Int32) (u : Int32 × Int32 × Int32 × Int32 × Int32 × Int64 × Int32 × (Nat → Int32)) => post r u.1 u.2.1 u.2.2.1 u.2.2.2.1 u.2.2.2.2.1 u.2.2.2.2.2.1 u.2.2.2.2.2.2.1 u.2.2.2.2.2.2.2) (fun (u : Int32 × Int32 × Int32 × Int32 × Int32 × Int64 × Int32 × (Nat → Int32)) => [cMO hMO u.1 u.2.1 hTM mo_isBoard mo_width mo_height u.2.2.1 u.2.2.2.1 u.2.2.2.2.1 mo_floor mo_goals u.2.2.2.2.2.1 mo_newFloor mo_newGoals mo_newBoxes mo_newPerson mo_newWidth u.2.2.2.2.2.2.1 hDO mo_many mo_taken mo_length hXB hXC hXF hXY hXS hXP hFA hLE, cI G hTM 160 aTM, cI G hDO 500 u.2.2.2.2.2.2.2]) A) args s 0 0 A) (F0 m 95 ls []) := by
  intro mo_thrown mo_size mo_person mo_moves mo_pushes mo_boxes mo_kept aDO v1 v2 v3 v4 v6 v7 H locs ls h hP hD hS hl
  unfold MO_row_95 at h
  refine lv_aload_n X.1 X.2.1 dX6_row_95 rfl (lv_at hl 0 rfl) ?_
  refine g_get X hP 0 6 3 (v := .int mo_isBoard) rfl rfl inX6 (by decide) fl_X6_83 rfl dX6_row_96 ?_
  refine lv_if_eq (tgt := 111) X.1 X.2.1 dX6_row_99 (by decide) (fun hc => ?_) (fun hc => ?_)
  · replace h := Eq.mp (if_pos hc) h
    refine lv_iconst (v := (-1 : Int32)) X.1 X.2.1 dX6_row_111 (by decide) ?_
    refine lv_iload X.1 X.2.1 dX6_row_112 (lv_at hl 4 rfl) ?_
    refine lv_isub X.1 X.2.1 dX6_row_114 ?_
    exact g_iret X (mo_thrown, mo_size, mo_person, mo_moves, mo_pushes, mo_boxes, mo_kept, aDO) h hP hD hS dX6_row_115
  · replace h := Eq.mp (if_neg hc) h
    refine lv_aload_n X.1 X.2.1 dX6_row_102 rfl (lv_at hl 0 rfl) ?_
    refine lv_iload X.1 X.2.1 dX6_row_103 (lv_at hl 5 rfl) ?_
    refine g_ci (wr := [cI G hTM 160 aTM]) X [0, 2] [1] (g_rV (As := [.int v6]) (rest := []) X (c_MO_go l G hMO hTM hDO hXB hXC hXF hXY hXS hXP hFA hLE mo_thrown mo_size mo_isBoard mo_width mo_height mo_person mo_moves mo_pushes mo_floor mo_goals mo_boxes mo_newFloor mo_newGoals mo_newBoxes mo_newPerson mo_newWidth mo_kept mo_many mo_taken mo_length aDO v6 _ h _) lk_X6_122 rfl rfl ⟨Nat.le_of_ble_eq_true rfl, Nat.le_of_ble_eq_true rfl⟩ hP hD hS [0, 2] rfl rfl 0 6 rfl rfl rfl hl.1 rfl (Nat.le_of_ble_eq_true rfl) dX6_row_105 ⟨Nat.le_of_ble_eq_true rfl, Nat.le_of_ble_eq_true rfl⟩) hP hD hS rfl rfl rfl (by decide) (fun r_1 u H locs h hP hD hS => ?_)
    obtain ⟨mo_person_2, mo_moves_3, mo_pushes_4, mo_boxes_5, mo_kept_6, aDO_7⟩ := u
    try dsimp only at h
    replace hP := hP.sub (ws' := [cMO hMO mo_thrown mo_size hTM mo_isBoard mo_width mo_height mo_person_2 mo_moves_3 mo_pushes_4 mo_floor mo_goals mo_boxes_5 mo_newFloor mo_newGoals mo_newBoxes mo_newPerson mo_newWidth mo_kept_6 hDO mo_many mo_taken mo_length hXB hXC hXF hXY hXS hXP hFA hLE, cI G hTM 160 aTM, cI G hDO 500 aDO_7]) [1, 0, 2] rfl
    replace hD := hD.sub (ws' := [cMO hMO mo_thrown mo_size hTM mo_isBoard mo_width mo_height mo_person_2 mo_moves_3 mo_pushes_4 mo_floor mo_goals mo_boxes_5 mo_newFloor mo_newGoals mo_newBoxes mo_newPerson mo_newWidth mo_kept_6 hDO mo_many mo_taken mo_length hXB hXC hXF hXY hXS hXP hFA hLE, cI G hTM 160 aTM, cI G hDO 500 aDO_7]) [1, 0, 2] rfl rfl
    refine lv_if_ne (tgt := 116) X.1 X.2.1 dX6_row_108 (by decide) (fun hc => ?_) (fun hc => ?_)
    · replace h := Eq.mp (if_neg hc) h
      refine lv_iinc (v := (v3 + (1 : Int32))) (lv' := [(3, .int (v3 + (1 : Int32))), (0, .ref hMO), (1, .int v1), (2, .int v2), (4, .int v4), (6, .int v6), (7, .int v7)]) X.1 X.2.1 dX6_row_116 hl (k := 3) rfl rfl (by decide) rfl (fun ls hl => ?_)
      refine lv_iinc (v := (v7 + (1 : Int32))) (lv' := [(7, .int (v7 + (1 : Int32))), (3, .int (v3 + (1 : Int32))), (0, .ref hMO), (1, .int v1), (2, .int v2), (4, .int v4), (6, .int v6)]) X.1 X.2.1 dX6_row_119 hl (k := 6) rfl rfl (by decide) rfl (fun ls hl => ?_)
      refine lv_goto (tgt := 84) X.1 X.2.1 dX6_row_122 (by decide) ?_
      exact hk84 mo_thrown mo_size mo_person_2 mo_moves_3 mo_pushes_4 mo_boxes_5 mo_kept_6 aDO_7 v1 v2 (v3 + (1 : Int32)) v4 v6 (v7 + (1 : Int32)) _ _ _ h hP hD hS (lv_sub hl [2, 3, 4, 1, 5, 6, 0] rfl)
    · replace h := Eq.mp (if_pos hc) h
      refine lv_iconst (v := (-1 : Int32)) X.1 X.2.1 dX6_row_111 (by decide) ?_
      refine lv_iload X.1 X.2.1 dX6_row_112 (lv_at hl 4 rfl) ?_
      refine lv_isub X.1 X.2.1 dX6_row_114 ?_
      exact g_iret X (mo_thrown, mo_size, mo_person_2, mo_moves_3, mo_pushes_4, mo_boxes_5, mo_kept_6, aDO_7) h hP hD hS dX6_row_115
set_option maxHeartbeats 4000000 in
set_option maxRecDepth 100000 in
theorem s_MO_row_84 {p : Program} {l : Launch} {e : Env} {s : State} {m : MethodId} {args : Array Value} {below : List Frame} {meth : Method} {c : Code} {G : gEnv} {A : Nat → Prop} {hMO : Nat} {hTM : Nat} {hDO : Nat} {hXB : Nat} {hXC : Nat} {hXF : Nat} {hXY : Nat} {hXS : Nat} {hXP : Nat} {hFA : Nat} {hLE : Nat} {mo_goals : Int64} {mo_newFloor : Int64} {mo_newGoals : Int64} {mo_newBoxes : Int64} {mo_newPerson : Int32} {mo_newWidth : Int32} {mo_many : Int32} {mo_taken : Int32} {mo_length : Int32} {mo_isBoard : Int32} {mo_width : Int32} {mo_height : Int32} {mo_floor : Int64} {aTM : Nat → Int32} {k22 : Int32 → Int32 → Int32 → Int32 → Int32 → Int64 → Int32 → (Nat → Int32) → Int32 → Int32 → Int32 → Int32 → Prop} {post : Int32 → Int32 → Int32 → Int32 → Int32 → Int32 → Int64 → Int32 → (Nat → Int32) → Prop} (X : gX p m meth c cX6_row 8 RX6 (some .int) s args G A) (hk22 : ∀ (mo_thrown' : Int32) (mo_size' : Int32) (mo_person' : Int32) (mo_moves' : Int32) (mo_pushes' : Int32) (mo_boxes' : Int64) (mo_kept' : Int32) (aDO' : (Nat → Int32)) (v1' : Int32) (v2' : Int32) (v3' : Int32) (v4' : Int32) (H : Heap) (locs : List Loc) (ls : Array Slot), k22 mo_thrown' mo_size' mo_person' mo_moves' mo_pushes' mo_boxes' mo_kept' aDO' v1' v2' v3' v4' → va_P G.1 gCl [cMO hMO mo_thrown' mo_size' hTM mo_isBoard mo_width mo_height mo_person' mo_moves' mo_pushes' mo_floor mo_goals mo_boxes' mo_newFloor mo_newGoals mo_newBoxes mo_newPerson mo_newWidth mo_kept' hDO mo_many mo_taken mo_length hXB hXC hXF hXY hXS hXP hFA hLE, cI G hTM 160 aTM, cI G hDO 500 aDO'] H → va_D A [cMO hMO mo_thrown' mo_size' hTM mo_isBoard mo_width mo_height mo_person' mo_moves' mo_pushes' mo_floor mo_goals mo_boxes' mo_newFloor mo_newGoals mo_newBoxes mo_newPerson mo_newWidth mo_kept' hDO mo_many mo_taken mo_length hXB hXC hXF hXY hXS hXP hFA hLE, cI G hTM 160 aTM, cI G hDO 500 aDO'] → va_S A s.heap H locs → lv_has ls 8 [(0, .ref hMO), (1, .int v1'), (2, .int v2'), (3, .int v3'), (4, .int v4')] → W p l e rm_MO_row s m args below meth c H locs 0 0 (MQ below (gQi G (fun (r : Int32) (u : Int32 × Int32 × Int32 × Int32 × Int32 × Int64 × Int32 × (Nat → Int32)) => post r u.1 u.2.1 u.2.2.1 u.2.2.2.1 u.2.2.2.2.1 u.2.2.2.2.2.1 u.2.2.2.2.2.2.1 u.2.2.2.2.2.2.2) (fun (u : Int32 × Int32 × Int32 × Int32 × Int32 × Int64 × Int32 × (Nat → Int32)) => [cMO hMO u.1 u.2.1 hTM mo_isBoard mo_width mo_height u.2.2.1 u.2.2.2.1 u.2.2.2.2.1 mo_floor mo_goals u.2.2.2.2.2.1 mo_newFloor mo_newGoals mo_newBoxes mo_newPerson mo_newWidth u.2.2.2.2.2.2.1 hDO mo_many mo_taken mo_length hXB hXC hXF hXY hXS hXP hFA hLE, cI G hTM 160 aTM, cI G hDO 500 u.2.2.2.2.2.2.2]) A) args s 0 0 A) (F0 m 22 ls [])) : ∀ (n : Nat) (mo_thrown : Int32) (mo_size : Int32) (mo_person : Int32) (mo_moves : Int32) (mo_pushes : Int32) (mo_boxes : Int64) (mo_kept : Int32) (aDO : (Nat → Int32)) (v1 : Int32) (v2 : Int32) (v3 : Int32) (v4 : Int32) (v6 : Int32) (v7 : Int32) (H : Heap) (locs : List Loc) (ls : Array Slot), MO_row_84 mo_isBoard mo_width mo_height mo_floor aTM k22 post n mo_thrown mo_size mo_person mo_moves mo_pushes mo_boxes mo_kept aDO v1 v2 v3 v4 v6 v7 → va_P G.1 gCl [cMO hMO mo_thrown mo_size hTM mo_isBoard mo_width mo_height mo_person mo_moves mo_pushes mo_floor mo_goals mo_boxes mo_newFloor mo_newGoals mo_newBoxes mo_newPerson mo_newWidth mo_kept hDO mo_many mo_taken mo_length hXB hXC hXF hXY hXS hXP hFA hLE, cI G hTM 160 aTM, cI G hDO 500 aDO] H → va_D A [cMO hMO mo_thrown mo_size hTM mo_isBoard mo_width mo_height mo_person mo_moves mo_pushes mo_floor mo_goals mo_boxes mo_newFloor mo_newGoals mo_newBoxes mo_newPerson mo_newWidth mo_kept hDO mo_many mo_taken mo_length hXB hXC hXF hXY hXS hXP hFA hLE, cI G hTM 160 aTM, cI G hDO 500 aDO] → va_S A s.heap H locs → lv_has ls 8 [(0, .ref hMO), (1, .int v1), (2, .int v2), (3, .int v3), (4, .int v4), (6, .int v6), (7, .int v7)] → W p l e rm_MO_row s m args below meth c H locs 0 0 (MQ below (gQi G (fun (r : Int32) (u : Int32 × Int32 × Int32 × Int32 × Int32 × Int64 × Int32 × (Nat → Int32)) => post r u.1 u.2.1 u.2.2.1 u.2.2.2.1 u.2.2.2.2.1 u.2.2.2.2.2.1 u.2.2.2.2.2.2.1 u.2.2.2.2.2.2.2) (fun (u : Int32 × Int32 × Int32 × Int32 × Int32 × Int64 × Int32 × (Nat → Int32)) => [cMO hMO u.1 u.2.1 hTM mo_isBoard mo_width mo_height u.2.2.1 u.2.2.2.1 u.2.2.2.2.1 mo_floor mo_goals u.2.2.2.2.2.1 mo_newFloor mo_newGoals mo_newBoxes mo_newPerson mo_newWidth u.2.2.2.2.2.2.1 hDO mo_many mo_taken mo_length hXB hXC hXF hXY hXS hXP hFA hLE, cI G hTM 160 aTM, cI G hDO 500 u.2.2.2.2.2.2.2]) A) args s 0 0 A) (F0 m 84 ls []) := by
  intro n
  induction n with
  | zero => intro mo_thrown mo_size mo_person mo_moves mo_pushes mo_boxes mo_kept aDO v1 v2 v3 v4 v6 v7 H locs ls h _ _ _ _; exact h.elim
  | succ n ih =>
    intro mo_thrown mo_size mo_person mo_moves mo_pushes mo_boxes mo_kept aDO v1 v2 v3 v4 v6 v7 H locs ls h hP hD hS hl
    unfold MO_row_84 at h
    refine lv_iload X.1 X.2.1 dX6_row_84 (lv_at hl 6 rfl) ?_
    refine lv_iload_n X.1 X.2.1 dX6_row_86 rfl (lv_at hl 2 rfl) ?_
    refine lv_icmp_lt (tgt := 95) X.1 X.2.1 dX6_row_87 (by decide) (fun hc => ?_) (fun hc => ?_)
    · replace h := Eq.mp (if_pos hc) h
      exact s_MO_row_95 X (fun mo_thrown' mo_size' mo_person' mo_moves' mo_pushes' mo_boxes' mo_kept' aDO' v1' v2' v3' v4' v6' v7' H' locs' ls' h' hP' hD' hS' hl' => ih mo_thrown' mo_size' mo_person' mo_moves' mo_pushes' mo_boxes' mo_kept' aDO' v1' v2' v3' v4' v6' v7' H' locs' ls' h' hP' hD' hS' hl') mo_thrown mo_size mo_person mo_moves mo_pushes mo_boxes mo_kept aDO v1 v2 v3 v4 v6 v7 _ _ _ h hP hD hS (lv_sub hl [0, 1, 2, 3, 4, 5, 6] rfl)
    · replace h := Eq.mp (if_neg hc) h
      refine lv_iload X.1 X.2.1 dX6_row_90 (lv_at hl 6 rfl) ?_
      refine lv_if_ne (tgt := 125) X.1 X.2.1 dX6_row_92 (by decide) (fun hc => ?_) (fun hc => ?_)
      · replace h := Eq.mp (if_neg hc) h
        refine lv_iconst (v := (0 : Int32)) X.1 X.2.1 dX6_row_125 (by decide) ?_
        refine lv_istore_n (lv' := [(2, .int (0 : Int32)), (0, .ref hMO), (1, .int v1), (3, .int v3), (4, .int v4), (6, .int v6), (7, .int v7)]) X.1 X.2.1 dX6_row_126 rfl hl (by decide) rfl (fun ls hl => ?_)
        refine lv_iinc (v := (v4 + (1 : Int32))) (lv' := [(4, .int (v4 + (1 : Int32))), (2, .int (0 : Int32)), (0, .ref hMO), (1, .int v1), (3, .int v3), (6, .int v6), (7, .int v7)]) X.1 X.2.1 dX6_row_127 hl (k := 4) rfl rfl (by decide) rfl (fun ls hl => ?_)
        refine lv_goto (tgt := 22) X.1 X.2.1 dX6_row_130 (by decide) ?_
        exact hk22 mo_thrown mo_size mo_person mo_moves mo_pushes mo_boxes mo_kept aDO v1 (0 : Int32) v3 (v4 + (1 : Int32)) _ _ _ h hP hD hS (lv_sub hl [2, 3, 1, 4, 0] rfl)
      · replace h := Eq.mp (if_pos hc) h
        exact s_MO_row_95 X (fun mo_thrown' mo_size' mo_person' mo_moves' mo_pushes' mo_boxes' mo_kept' aDO' v1' v2' v3' v4' v6' v7' H' locs' ls' h' hP' hD' hS' hl' => ih mo_thrown' mo_size' mo_person' mo_moves' mo_pushes' mo_boxes' mo_kept' aDO' v1' v2' v3' v4' v6' v7' H' locs' ls' h' hP' hD' hS' hl') mo_thrown mo_size mo_person mo_moves mo_pushes mo_boxes mo_kept aDO v1 v2 v3 v4 v6 v7 _ _ _ h hP hD hS (lv_sub hl [0, 1, 2, 3, 4, 5, 6] rfl)
set_option maxHeartbeats 4000000 in
set_option maxRecDepth 100000 in
theorem s_MO_row_64 {p : Program} {l : Launch} {e : Env} {s : State} {m : MethodId} {args : Array Value} {below : List Frame} {meth : Method} {c : Code} {G : gEnv} {A : Nat → Prop} {hMO : Nat} {hTM : Nat} {hDO : Nat} {hXB : Nat} {hXC : Nat} {hXF : Nat} {hXY : Nat} {hXS : Nat} {hXP : Nat} {hFA : Nat} {hLE : Nat} {mo_goals : Int64} {mo_newFloor : Int64} {mo_newGoals : Int64} {mo_newBoxes : Int64} {mo_newPerson : Int32} {mo_newWidth : Int32} {mo_many : Int32} {mo_taken : Int32} {mo_length : Int32} {mo_isBoard : Int32} {mo_width : Int32} {mo_height : Int32} {mo_floor : Int64} {aTM : Nat → Int32} {k22 : Int32 → Int32 → Int32 → Int32 → Int32 → Int64 → Int32 → (Nat → Int32) → Int32 → Int32 → Int32 → Int32 → Prop} {post : Int32 → Int32 → Int32 → Int32 → Int32 → Int32 → Int64 → Int32 → (Nat → Int32) → Prop} (X : gX p m meth c cX6_row 8 RX6 (some .int) s args G A) (hk22 : ∀ (mo_thrown' : Int32) (mo_size' : Int32) (mo_person' : Int32) (mo_moves' : Int32) (mo_pushes' : Int32) (mo_boxes' : Int64) (mo_kept' : Int32) (aDO' : (Nat → Int32)) (v1' : Int32) (v2' : Int32) (v3' : Int32) (v4' : Int32) (H : Heap) (locs : List Loc) (ls : Array Slot), k22 mo_thrown' mo_size' mo_person' mo_moves' mo_pushes' mo_boxes' mo_kept' aDO' v1' v2' v3' v4' → va_P G.1 gCl [cMO hMO mo_thrown' mo_size' hTM mo_isBoard mo_width mo_height mo_person' mo_moves' mo_pushes' mo_floor mo_goals mo_boxes' mo_newFloor mo_newGoals mo_newBoxes mo_newPerson mo_newWidth mo_kept' hDO mo_many mo_taken mo_length hXB hXC hXF hXY hXS hXP hFA hLE, cI G hTM 160 aTM, cI G hDO 500 aDO'] H → va_D A [cMO hMO mo_thrown' mo_size' hTM mo_isBoard mo_width mo_height mo_person' mo_moves' mo_pushes' mo_floor mo_goals mo_boxes' mo_newFloor mo_newGoals mo_newBoxes mo_newPerson mo_newWidth mo_kept' hDO mo_many mo_taken mo_length hXB hXC hXF hXY hXS hXP hFA hLE, cI G hTM 160 aTM, cI G hDO 500 aDO'] → va_S A s.heap H locs → lv_has ls 8 [(0, .ref hMO), (1, .int v1'), (2, .int v2'), (3, .int v3'), (4, .int v4')] → W p l e rm_MO_row s m args below meth c H locs 0 0 (MQ below (gQi G (fun (r : Int32) (u : Int32 × Int32 × Int32 × Int32 × Int32 × Int64 × Int32 × (Nat → Int32)) => post r u.1 u.2.1 u.2.2.1 u.2.2.2.1 u.2.2.2.2.1 u.2.2.2.2.2.1 u.2.2.2.2.2.2.1 u.2.2.2.2.2.2.2) (fun (u : Int32 × Int32 × Int32 × Int32 × Int32 × Int64 × Int32 × (Nat → Int32)) => [cMO hMO u.1 u.2.1 hTM mo_isBoard mo_width mo_height u.2.2.1 u.2.2.2.1 u.2.2.2.2.1 mo_floor mo_goals u.2.2.2.2.2.1 mo_newFloor mo_newGoals mo_newBoxes mo_newPerson mo_newWidth u.2.2.2.2.2.2.1 hDO mo_many mo_taken mo_length hXB hXC hXF hXY hXS hXP hFA hLE, cI G hTM 160 aTM, cI G hDO 500 u.2.2.2.2.2.2.2]) A) args s 0 0 A) (F0 m 22 ls [])) : ∀ (mo_thrown : Int32) (mo_size : Int32) (mo_person : Int32) (mo_moves : Int32) (mo_pushes : Int32) (mo_boxes : Int64) (mo_kept : Int32) (aDO : (Nat → Int32)) (v1 : Int32) (v2 : Int32) (v3 : Int32) (v4 : Int32) (v5 : Int32) (H : Heap) (locs : List Loc) (ls : Array Slot), MO_row_64 mo_isBoard mo_width mo_height mo_floor aTM k22 post mo_thrown mo_size mo_person mo_moves mo_pushes mo_boxes mo_kept aDO v1 v2 v3 v4 v5 → va_P G.1 gCl [cMO hMO mo_thrown mo_size hTM mo_isBoard mo_width mo_height mo_person mo_moves mo_pushes mo_floor mo_goals mo_boxes mo_newFloor mo_newGoals mo_newBoxes mo_newPerson mo_newWidth mo_kept hDO mo_many mo_taken mo_length hXB hXC hXF hXY hXS hXP hFA hLE, cI G hTM 160 aTM, cI G hDO 500 aDO] H → va_D A [cMO hMO mo_thrown mo_size hTM mo_isBoard mo_width mo_height mo_person mo_moves mo_pushes mo_floor mo_goals mo_boxes mo_newFloor mo_newGoals mo_newBoxes mo_newPerson mo_newWidth mo_kept hDO mo_many mo_taken mo_length hXB hXC hXF hXY hXS hXP hFA hLE, cI G hTM 160 aTM, cI G hDO 500 aDO] → va_S A s.heap H locs → lv_has ls 8 [(0, .ref hMO), (1, .int v1), (2, .int v2), (3, .int v3), (4, .int v4), (5, .int v5)] → W p l e rm_MO_row s m args below meth c H locs 0 0 (MQ below (gQi G (fun (r : Int32) (u : Int32 × Int32 × Int32 × Int32 × Int32 × Int64 × Int32 × (Nat → Int32)) => post r u.1 u.2.1 u.2.2.1 u.2.2.2.1 u.2.2.2.2.1 u.2.2.2.2.2.1 u.2.2.2.2.2.2.1 u.2.2.2.2.2.2.2) (fun (u : Int32 × Int32 × Int32 × Int32 × Int32 × Int64 × Int32 × (Nat → Int32)) => [cMO hMO u.1 u.2.1 hTM mo_isBoard mo_width mo_height u.2.2.1 u.2.2.2.1 u.2.2.2.2.1 mo_floor mo_goals u.2.2.2.2.2.1 mo_newFloor mo_newGoals mo_newBoxes mo_newPerson mo_newWidth u.2.2.2.2.2.2.1 hDO mo_many mo_taken mo_length hXB hXC hXF hXY hXS hXP hFA hLE, cI G hTM 160 aTM, cI G hDO 500 u.2.2.2.2.2.2.2]) A) args s 0 0 A) (F0 m 64 ls []) := by
  intro mo_thrown mo_size mo_person mo_moves mo_pushes mo_boxes mo_kept aDO v1 v2 v3 v4 v5 H locs ls h hP hD hS hl
  unfold MO_row_64 at h
  refine lv_iload X.1 X.2.1 dX6_row_64 (lv_at hl 5 rfl) ?_
  refine g_ci (wr := [cMO hMO mo_thrown mo_size hTM mo_isBoard mo_width mo_height mo_person mo_moves mo_pushes mo_floor mo_goals mo_boxes mo_newFloor mo_newGoals mo_newBoxes mo_newPerson mo_newWidth mo_kept hDO mo_many mo_taken mo_length hXB hXC hXF hXY hXS hXP hFA hLE, cI G hTM 160 aTM, cI G hDO 500 aDO]) X [] [0, 1, 2] (g_rS (As := [.int v5]) (rest := []) X (c_MO_wayOf l G v5 _ h _) lk_X6_129 rfl rfl ⟨Nat.le_of_ble_eq_true rfl, Nat.le_of_ble_eq_true rfl⟩ hP hD hS [] rfl rfl rfl hl.1 rfl (Nat.le_of_ble_eq_true rfl) dX6_row_66 ⟨Nat.le_of_ble_eq_true rfl, Nat.le_of_ble_eq_true rfl⟩) hP hD hS rfl rfl rfl (by decide) (fun r_1 u H locs h hP hD hS => ?_)
  try dsimp only at h
  replace hP := hP.sub (ws' := [cMO hMO mo_thrown mo_size hTM mo_isBoard mo_width mo_height mo_person mo_moves mo_pushes mo_floor mo_goals mo_boxes mo_newFloor mo_newGoals mo_newBoxes mo_newPerson mo_newWidth mo_kept hDO mo_many mo_taken mo_length hXB hXC hXF hXY hXS hXP hFA hLE, cI G hTM 160 aTM, cI G hDO 500 aDO]) [0, 1, 2] rfl
  replace hD := hD.sub (ws' := [cMO hMO mo_thrown mo_size hTM mo_isBoard mo_width mo_height mo_person mo_moves mo_pushes mo_floor mo_goals mo_boxes mo_newFloor mo_newGoals mo_newBoxes mo_newPerson mo_newWidth mo_kept hDO mo_many mo_taken mo_length hXB hXC hXF hXY hXS hXP hFA hLE, cI G hTM 160 aTM, cI G hDO 500 aDO]) [0, 1, 2] rfl rfl
  refine lv_istore (lv' := [(6, .int r_1), (0, .ref hMO), (1, .int v1), (2, .int v2), (3, .int v3), (4, .int v4), (5, .int v5)]) X.1 X.2.1 dX6_row_69 hl (by decide) rfl (fun ls hl => ?_)
  refine lv_iload X.1 X.2.1 dX6_row_71 (lv_at hl 0 rfl) ?_
  refine lv_if_ge (tgt := 81) X.1 X.2.1 dX6_row_73 (by decide) (fun hc => ?_) (fun hc => ?_)
  · replace h := Eq.mp (if_pos hc) h
    refine lv_iconst (v := (0 : Int32)) X.1 X.2.1 dX6_row_81 (by decide) ?_
    refine lv_istore (lv' := [(7, .int (0 : Int32)), (6, .int r_1), (0, .ref hMO), (1, .int v1), (2, .int v2), (3, .int v3), (4, .int v4), (5, .int v5)]) X.1 X.2.1 dX6_row_82 hl (by decide) rfl (fun ls hl => ?_)
    obtain ⟨n', h⟩ := h
    exact s_MO_row_84 X hk22 n' mo_thrown mo_size mo_person mo_moves mo_pushes mo_boxes mo_kept aDO v1 v2 v3 v4 r_1 (0 : Int32) _ _ _ h hP hD hS (lv_sub hl [2, 3, 4, 5, 6, 1, 0] rfl)
  · replace h := Eq.mp (if_neg hc) h
    refine lv_iconst (v := (-1 : Int32)) X.1 X.2.1 dX6_row_76 (by decide) ?_
    refine lv_iload X.1 X.2.1 dX6_row_77 (lv_at hl 5 rfl) ?_
    refine lv_isub X.1 X.2.1 dX6_row_79 ?_
    exact g_iret X (mo_thrown, mo_size, mo_person, mo_moves, mo_pushes, mo_boxes, mo_kept, aDO) h hP hD hS dX6_row_80
set_option maxHeartbeats 4000000 in
set_option maxRecDepth 100000 in
theorem s_MO_row_22 {p : Program} {l : Launch} {e : Env} {s : State} {m : MethodId} {args : Array Value} {below : List Frame} {meth : Method} {c : Code} {G : gEnv} {A : Nat → Prop} {hMO : Nat} {hTM : Nat} {hDO : Nat} {hXB : Nat} {hXC : Nat} {hXF : Nat} {hXY : Nat} {hXS : Nat} {hXP : Nat} {hFA : Nat} {hLE : Nat} {mo_goals : Int64} {mo_newFloor : Int64} {mo_newGoals : Int64} {mo_newBoxes : Int64} {mo_newPerson : Int32} {mo_newWidth : Int32} {mo_many : Int32} {mo_taken : Int32} {mo_length : Int32} {mo_isBoard : Int32} {mo_width : Int32} {mo_height : Int32} {mo_floor : Int64} {aTM : Nat → Int32} {post : Int32 → Int32 → Int32 → Int32 → Int32 → Int32 → Int64 → Int32 → (Nat → Int32) → Prop} (X : gX p m meth c cX6_row 8 RX6 (some .int) s args G A)  : ∀ (n : Nat) (mo_thrown : Int32) (mo_size : Int32) (mo_person : Int32) (mo_moves : Int32) (mo_pushes : Int32) (mo_boxes : Int64) (mo_kept : Int32) (aDO : (Nat → Int32)) (v1 : Int32) (v2 : Int32) (v3 : Int32) (v4 : Int32) (H : Heap) (locs : List Loc) (ls : Array Slot), MO_row_22 mo_isBoard mo_width mo_height mo_floor aTM post n mo_thrown mo_size mo_person mo_moves mo_pushes mo_boxes mo_kept aDO v1 v2 v3 v4 → va_P G.1 gCl [cMO hMO mo_thrown mo_size hTM mo_isBoard mo_width mo_height mo_person mo_moves mo_pushes mo_floor mo_goals mo_boxes mo_newFloor mo_newGoals mo_newBoxes mo_newPerson mo_newWidth mo_kept hDO mo_many mo_taken mo_length hXB hXC hXF hXY hXS hXP hFA hLE, cI G hTM 160 aTM, cI G hDO 500 aDO] H → va_D A [cMO hMO mo_thrown mo_size hTM mo_isBoard mo_width mo_height mo_person mo_moves mo_pushes mo_floor mo_goals mo_boxes mo_newFloor mo_newGoals mo_newBoxes mo_newPerson mo_newWidth mo_kept hDO mo_many mo_taken mo_length hXB hXC hXF hXY hXS hXP hFA hLE, cI G hTM 160 aTM, cI G hDO 500 aDO] → va_S A s.heap H locs → lv_has ls 8 [(0, .ref hMO), (1, .int v1), (2, .int v2), (3, .int v3), (4, .int v4)] → W p l e rm_MO_row s m args below meth c H locs 0 0 (MQ below (gQi G (fun (r : Int32) (u : Int32 × Int32 × Int32 × Int32 × Int32 × Int64 × Int32 × (Nat → Int32)) => post r u.1 u.2.1 u.2.2.1 u.2.2.2.1 u.2.2.2.2.1 u.2.2.2.2.2.1 u.2.2.2.2.2.2.1 u.2.2.2.2.2.2.2) (fun (u : Int32 × Int32 × Int32 × Int32 × Int32 × Int64 × Int32 × (Nat → Int32)) => [cMO hMO u.1 u.2.1 hTM mo_isBoard mo_width mo_height u.2.2.1 u.2.2.2.1 u.2.2.2.2.1 mo_floor mo_goals u.2.2.2.2.2.1 mo_newFloor mo_newGoals mo_newBoxes mo_newPerson mo_newWidth u.2.2.2.2.2.2.1 hDO mo_many mo_taken mo_length hXB hXC hXF hXY hXS hXP hFA hLE, cI G hTM 160 aTM, cI G hDO 500 u.2.2.2.2.2.2.2]) A) args s 0 0 A) (F0 m 22 ls []) := by
  intro n
  induction n with
  | zero => intro mo_thrown mo_size mo_person mo_moves mo_pushes mo_boxes mo_kept aDO v1 v2 v3 v4 H locs ls h _ _ _ _; exact h.elim
  | succ n ih =>
    intro mo_thrown mo_size mo_person mo_moves mo_pushes mo_boxes mo_kept aDO v1 v2 v3 v4 H locs ls h hP hD hS hl
    unfold MO_row_22 at h
    refine lv_iload X.1 X.2.1 dX6_row_22 (lv_at hl 4 rfl) ?_
    refine lv_iload_n X.1 X.2.1 dX6_row_24 rfl (lv_at hl 1 rfl) ?_
    refine lv_icmp_ge (tgt := 133) X.1 X.2.1 dX6_row_25 (by decide) (fun hc => ?_) (fun hc => ?_)
    · replace h := Eq.mp (if_pos hc) h
      refine lv_iload_n X.1 X.2.1 dX6_row_133 rfl (lv_at hl 2 rfl) ?_
      refine lv_if_le (tgt := 143) X.1 X.2.1 dX6_row_134 (by decide) (fun hc => ?_) (fun hc => ?_)
      · replace h := Eq.mp (if_pos hc) h
        refine lv_iload_n X.1 X.2.1 dX6_row_143 rfl (lv_at hl 3 rfl) ?_
        exact g_iret X (mo_thrown, mo_size, mo_person, mo_moves, mo_pushes, mo_boxes, mo_kept, aDO) h hP hD hS dX6_row_144
      · replace h := Eq.mp (if_neg hc) h
        refine lv_iconst (v := (-1 : Int32)) X.1 X.2.1 dX6_row_137 (by decide) ?_
        refine lv_iload_n X.1 X.2.1 dX6_row_138 rfl (lv_at hl 1 rfl) ?_
        refine lv_isub X.1 X.2.1 dX6_row_139 ?_
        refine lv_goto (tgt := 144) X.1 X.2.1 dX6_row_140 (by decide) ?_
        exact g_iret X (mo_thrown, mo_size, mo_person, mo_moves, mo_pushes, mo_boxes, mo_kept, aDO) h hP hD hS dX6_row_144
    · replace h := Eq.mp (if_neg hc) h
      refine lv_aload_n X.1 X.2.1 dX6_row_28 rfl (lv_at hl 0 rfl) ?_
      refine g_get X hP 0 6 2 (v := .ref hTM) rfl rfl inX6 (by decide) fl_X6_7 rfl dX6_row_29 ?_
      refine lv_iload X.1 X.2.1 dX6_row_32 (lv_at hl 4 rfl) ?_
      obtain ⟨hin, h⟩ := h
      refine va_iald (D := G.1) X.1 X.2.1 X.k.1 hP 1 0 rfl rfl hin dX6_row_34 ?_
      refine lv_topi (fun v5_1 e_v5_1 => ?_)
      replace h := h v5_1 e_v5_1
      refine lv_istore (lv' := [(5, .int v5_1), (0, .ref hMO), (1, .int v1), (2, .int v2), (3, .int v3), (4, .int v4)]) X.1 X.2.1 dX6_row_35 hl (by decide) rfl (fun ls hl => ?_)
      refine lv_iload_n X.1 X.2.1 dX6_row_37 rfl (lv_at hl 3 rfl) ?_
      refine lv_if_ne (tgt := 64) X.1 X.2.1 dX6_row_38 (by decide) (fun hc => ?_) (fun hc => ?_)
      · replace h := Eq.mp (if_neg hc) h
        exact s_MO_row_64 X (fun mo_thrown' mo_size' mo_person' mo_moves' mo_pushes' mo_boxes' mo_kept' aDO' v1' v2' v3' v4' H' locs' ls' h' hP' hD' hS' hl' => ih mo_thrown' mo_size' mo_person' mo_moves' mo_pushes' mo_boxes' mo_kept' aDO' v1' v2' v3' v4' H' locs' ls' h' hP' hD' hS' hl') mo_thrown mo_size mo_person mo_moves mo_pushes mo_boxes mo_kept aDO v1 v2 v3 v4 v5_1 _ _ _ h hP hD hS (lv_sub hl [1, 2, 3, 4, 5, 0] rfl)
      · replace h := Eq.mp (if_pos hc) h
        refine lv_iload X.1 X.2.1 dX6_row_41 (lv_at hl 0 rfl) ?_
        refine lv_bipush (v := (50 : Int32)) X.1 X.2.1 dX6_row_43 (by decide) ?_
        refine lv_icmp_lt (tgt := 64) X.1 X.2.1 dX6_row_45 (by decide) (fun hc => ?_) (fun hc => ?_)
        · replace h := Eq.mp (if_pos hc) h
          exact s_MO_row_64 X (fun mo_thrown' mo_size' mo_person' mo_moves' mo_pushes' mo_boxes' mo_kept' aDO' v1' v2' v3' v4' H' locs' ls' h' hP' hD' hS' hl' => ih mo_thrown' mo_size' mo_person' mo_moves' mo_pushes' mo_boxes' mo_kept' aDO' v1' v2' v3' v4' H' locs' ls' h' hP' hD' hS' hl') mo_thrown mo_size mo_person mo_moves mo_pushes mo_boxes mo_kept aDO v1 v2 v3 v4 v5_1 _ _ _ h hP hD hS (lv_sub hl [1, 2, 3, 4, 5, 0] rfl)
        · replace h := Eq.mp (if_neg hc) h
          refine lv_iload X.1 X.2.1 dX6_row_48 (lv_at hl 0 rfl) ?_
          refine lv_bipush (v := (57 : Int32)) X.1 X.2.1 dX6_row_50 (by decide) ?_
          refine lv_icmp_gt (tgt := 64) X.1 X.2.1 dX6_row_52 (by decide) (fun hc => ?_) (fun hc => ?_)
          · replace h := Eq.mp (if_pos hc) h
            exact s_MO_row_64 X (fun mo_thrown' mo_size' mo_person' mo_moves' mo_pushes' mo_boxes' mo_kept' aDO' v1' v2' v3' v4' H' locs' ls' h' hP' hD' hS' hl' => ih mo_thrown' mo_size' mo_person' mo_moves' mo_pushes' mo_boxes' mo_kept' aDO' v1' v2' v3' v4' H' locs' ls' h' hP' hD' hS' hl') mo_thrown mo_size mo_person mo_moves mo_pushes mo_boxes mo_kept aDO v1 v2 v3 v4 v5_1 _ _ _ h hP hD hS (lv_sub hl [1, 2, 3, 4, 5, 0] rfl)
          · replace h := Eq.mp (if_neg hc) h
            refine lv_iload X.1 X.2.1 dX6_row_55 (lv_at hl 0 rfl) ?_
            refine lv_bipush (v := (48 : Int32)) X.1 X.2.1 dX6_row_57 (by decide) ?_
            refine lv_isub X.1 X.2.1 dX6_row_59 ?_
            refine lv_topi (fun v2_2 e_v2_2 => ?_)
            replace h := h v2_2 e_v2_2
            refine lv_istore_n (lv' := [(2, .int v2_2), (5, .int v5_1), (0, .ref hMO), (1, .int v1), (3, .int v3), (4, .int v4)]) X.1 X.2.1 dX6_row_60 rfl hl (by decide) rfl (fun ls hl => ?_)
            refine lv_goto (tgt := 127) X.1 X.2.1 dX6_row_61 (by decide) ?_
            refine lv_iinc (v := (v4 + (1 : Int32))) (lv' := [(4, .int (v4 + (1 : Int32))), (2, .int v2_2), (5, .int v5_1), (0, .ref hMO), (1, .int v1), (3, .int v3)]) X.1 X.2.1 dX6_row_127 hl (k := 5) rfl rfl (by decide) rfl (fun ls hl => ?_)
            refine lv_goto (tgt := 22) X.1 X.2.1 dX6_row_130 (by decide) ?_
            exact ih mo_thrown mo_size mo_person mo_moves mo_pushes mo_boxes mo_kept aDO v1 v2_2 v3 (v4 + (1 : Int32)) _ _ _ h hP hD hS (lv_sub hl [3, 4, 1, 5, 0] rfl)
set_option maxHeartbeats 4000000 in
set_option maxRecDepth 100000 in
theorem c_MO_row (l : Launch) (G : gEnv) (hMO : Nat) (hTM : Nat) (hDO : Nat) (hXB : Nat) (hXC : Nat) (hXF : Nat) (hXY : Nat) (hXS : Nat) (hXP : Nat) (hFA : Nat) (hLE : Nat) (mo_thrown : Int32) (mo_size : Int32) (mo_isBoard : Int32) (mo_width : Int32) (mo_height : Int32) (mo_person : Int32) (mo_moves : Int32) (mo_pushes : Int32) (mo_floor : Int64) (mo_goals : Int64) (mo_boxes : Int64) (mo_newFloor : Int64) (mo_newGoals : Int64) (mo_newBoxes : Int64) (mo_newPerson : Int32) (mo_newWidth : Int32) (mo_kept : Int32) (mo_many : Int32) (mo_taken : Int32) (mo_length : Int32) (aTM : Nat → Int32) (aDO : Nat → Int32) (post : Int32 → Int32 → Int32 → Int32 → Int32 → Int32 → Int64 → Int32 → (Nat → Int32) → Prop) (h : MO_row mo_isBoard mo_width mo_height mo_floor aTM mo_thrown mo_size mo_person mo_moves mo_pushes mo_boxes mo_kept aDO post) (sz : Nat) : Met l yX6_row (Cond.code yX6_row cX6_row 8 (some .int) :: wAll) (rm_MO_row) (gPc G [.ref hMO] [cMO hMO mo_thrown mo_size hTM mo_isBoard mo_width mo_height mo_person mo_moves mo_pushes mo_floor mo_goals mo_boxes mo_newFloor mo_newGoals mo_newBoxes mo_newPerson mo_newWidth mo_kept hDO mo_many mo_taken mo_length hXB hXC hXF hXY hXS hXP hFA hLE, cI G hTM 160 aTM, cI G hDO 500 aDO] sz) (gQi G (fun (r : Int32) (u : Int32 × Int32 × Int32 × Int32 × Int32 × Int64 × Int32 × (Nat → Int32)) => post r u.1 u.2.1 u.2.2.1 u.2.2.2.1 u.2.2.2.2.1 u.2.2.2.2.2.1 u.2.2.2.2.2.2.1 u.2.2.2.2.2.2.2) (fun (u : Int32 × Int32 × Int32 × Int32 × Int32 × Int64 × Int32 × (Nat → Int32)) => [cMO hMO u.1 u.2.1 hTM mo_isBoard mo_width mo_height u.2.2.1 u.2.2.2.1 u.2.2.2.2.1 mo_floor mo_goals u.2.2.2.2.2.1 mo_newFloor mo_newGoals mo_newBoxes mo_newPerson mo_newWidth u.2.2.2.2.2.2.1 hDO mo_many mo_taken mo_length hXB hXC hXF hXY hXS hXP hFA hLE, cI G hTM 160 aTM, cI G hDO 500 u.2.2.2.2.2.2.2]) (va_A [cMO hMO mo_thrown mo_size hTM mo_isBoard mo_width mo_height mo_person mo_moves mo_pushes mo_floor mo_goals mo_boxes mo_newFloor mo_newGoals mo_newBoxes mo_newPerson mo_newWidth mo_kept hDO mo_many mo_taken mo_length hXB hXC hXF hXY hXS hXP hFA hLE, cI G hTM 160 aTM, cI G hDO 500 aDO] sz)) 0 0 (va_A [cMO hMO mo_thrown mo_size hTM mo_isBoard mo_width mo_height mo_person mo_moves mo_pushes mo_floor mo_goals mo_boxes mo_newFloor mo_newGoals mo_newBoxes mo_newPerson mo_newWidth mo_kept hDO mo_many mo_taken mo_length hXB hXC hXF hXY hXS hXP hFA hLE, cI G hTM 160 aTM, cI G hDO 500 aDO] sz) := by
  refine Met.ofW (cc := cX6_row) (maxL := 8) (ret := (some .int)) (by decide) rfl ?_
  intro p e s m args below meth c s₁ B hml hv
  obtain ⟨rfl, hsz, hP, hK, hD0⟩ := hv
  subst hsz
  have X := gX.ofB (ws := [cMO hMO mo_thrown mo_size hTM mo_isBoard mo_width mo_height mo_person mo_moves mo_pushes mo_floor mo_goals mo_boxes mo_newFloor mo_newGoals mo_newBoxes mo_newPerson mo_newWidth mo_kept hDO mo_many mo_taken mo_length hXB hXC hXF hXY hXS hXP hFA hLE, cI G hTM 160 aTM, cI G hDO 500 aDO]) B hml hK hD0
  have hD := hD0.self (sz := s.heap.size)
  generalize hAe : va_A [cMO hMO mo_thrown mo_size hTM mo_isBoard mo_width mo_height mo_person mo_moves mo_pushes mo_floor mo_goals mo_boxes mo_newFloor mo_newGoals mo_newBoxes mo_newPerson mo_newWidth mo_kept hDO mo_many mo_taken mo_length hXB hXC hXF hXY hXS hXP hFA hLE, cI G hTM 160 aTM, cI G hDO 500 aDO] s.heap.size = A at X hD ⊢
  have hS : va_S A s.heap s.heap [] := va_S.rf
  have hl := lv_entry ([.ref hMO]) (n := 8) (Nat.le_of_ble_eq_true rfl)
  rw [lg_entry_eq]
  generalize (lg_sl ([.ref hMO]) ++ List.replicate (8 - (lg_sl ([.ref hMO])).length) Slot.unset).toArray = ls at hl ⊢
  have hl : lv_has ls 8 [(0, .ref hMO)] := hl
  dsimp only [headSpec]
  unfold MO_row at h
  refine lv_aload_n X.1 X.2.1 dX6_row_0 rfl (lv_at hl 0 rfl) ?_
  refine lv_iconst (v := (0 : Int32)) X.1 X.2.1 dX6_row_1 (by decide) ?_
  refine g_put X hP hD hS 0 6 0 (v := .int (0 : Int32)) rfl rfl inX6 tyX6 tyX6_ok nmX6 (by decide) fl_X6_42 rfl rfl rfl rfl (Nat.le_of_ble_eq_true rfl) dX6_row_2 (fun H locs hP hD hS => ?_)
  replace hP : va_P G.1 gCl [cMO hMO (0 : Int32) mo_size hTM mo_isBoard mo_width mo_height mo_person mo_moves mo_pushes mo_floor mo_goals mo_boxes mo_newFloor mo_newGoals mo_newBoxes mo_newPerson mo_newWidth mo_kept hDO mo_many mo_taken mo_length hXB hXC hXF hXY hXS hXP hFA hLE, cI G hTM 160 aTM, cI G hDO 500 aDO] H := hP
  replace hD : va_D A [cMO hMO (0 : Int32) mo_size hTM mo_isBoard mo_width mo_height mo_person mo_moves mo_pushes mo_floor mo_goals mo_boxes mo_newFloor mo_newGoals mo_newBoxes mo_newPerson mo_newWidth mo_kept hDO mo_many mo_taken mo_length hXB hXC hXF hXY hXS hXP hFA hLE, cI G hTM 160 aTM, cI G hDO 500 aDO] := hD
  refine lv_aload_n X.1 X.2.1 dX6_row_5 rfl (lv_at hl 0 rfl) ?_
  refine g_get X hP 0 6 1 (v := .int mo_size) rfl rfl inX6 (by decide) fl_X6_56 rfl dX6_row_6 ?_
  refine lv_istore_n (lv' := [(1, .int mo_size), (0, .ref hMO)]) X.1 X.2.1 dX6_row_9 rfl hl (by decide) rfl (fun ls hl => ?_)
  refine lv_aload_n X.1 X.2.1 dX6_row_10 rfl (lv_at hl 1 rfl) ?_
  refine lv_iconst (v := (0 : Int32)) X.1 X.2.1 dX6_row_11 (by decide) ?_
  refine g_put X hP hD hS 0 6 1 (v := .int (0 : Int32)) rfl rfl inX6 tyX6 tyX6_ok nmX6 (by decide) fl_X6_56 rfl rfl rfl rfl (Nat.le_of_ble_eq_true rfl) dX6_row_12 (fun H locs hP hD hS => ?_)
  replace hP : va_P G.1 gCl [cMO hMO (0 : Int32) (0 : Int32) hTM mo_isBoard mo_width mo_height mo_person mo_moves mo_pushes mo_floor mo_goals mo_boxes mo_newFloor mo_newGoals mo_newBoxes mo_newPerson mo_newWidth mo_kept hDO mo_many mo_taken mo_length hXB hXC hXF hXY hXS hXP hFA hLE, cI G hTM 160 aTM, cI G hDO 500 aDO] H := hP
  replace hD : va_D A [cMO hMO (0 : Int32) (0 : Int32) hTM mo_isBoard mo_width mo_height mo_person mo_moves mo_pushes mo_floor mo_goals mo_boxes mo_newFloor mo_newGoals mo_newBoxes mo_newPerson mo_newWidth mo_kept hDO mo_many mo_taken mo_length hXB hXC hXF hXY hXS hXP hFA hLE, cI G hTM 160 aTM, cI G hDO 500 aDO] := hD
  refine lv_iconst (v := (0 : Int32)) X.1 X.2.1 dX6_row_15 (by decide) ?_
  refine lv_istore_n (lv' := [(2, .int (0 : Int32)), (1, .int mo_size), (0, .ref hMO)]) X.1 X.2.1 dX6_row_16 rfl hl (by decide) rfl (fun ls hl => ?_)
  refine lv_iconst (v := (0 : Int32)) X.1 X.2.1 dX6_row_17 (by decide) ?_
  refine lv_istore_n (lv' := [(3, .int (0 : Int32)), (2, .int (0 : Int32)), (1, .int mo_size), (0, .ref hMO)]) X.1 X.2.1 dX6_row_18 rfl hl (by decide) rfl (fun ls hl => ?_)
  refine lv_iconst (v := (0 : Int32)) X.1 X.2.1 dX6_row_19 (by decide) ?_
  refine lv_istore (lv' := [(4, .int (0 : Int32)), (3, .int (0 : Int32)), (2, .int (0 : Int32)), (1, .int mo_size), (0, .ref hMO)]) X.1 X.2.1 dX6_row_20 hl (by decide) rfl (fun ls hl => ?_)
  obtain ⟨n', h⟩ := h
  exact s_MO_row_22 X  n' (0 : Int32) (0 : Int32) mo_person mo_moves mo_pushes mo_boxes mo_kept aDO mo_size (0 : Int32) (0 : Int32) (0 : Int32) _ _ _ h hP hD hS (lv_sub hl [4, 3, 2, 1, 0] rfl)
abbrev rm_MO_isDone : Room := { frames := 0, cells := 0, slots := 0, locals := 0 }
set_option maxHeartbeats 4000000 in
set_option maxRecDepth 100000 in
theorem c_MO_isDone (l : Launch) (G : gEnv) (hMO : Nat) (hTM : Nat) (hDO : Nat) (hXB : Nat) (hXC : Nat) (hXF : Nat) (hXY : Nat) (hXS : Nat) (hXP : Nat) (hFA : Nat) (hLE : Nat) (mo_thrown : Int32) (mo_size : Int32) (mo_isBoard : Int32) (mo_width : Int32) (mo_height : Int32) (mo_person : Int32) (mo_moves : Int32) (mo_pushes : Int32) (mo_floor : Int64) (mo_goals : Int64) (mo_boxes : Int64) (mo_newFloor : Int64) (mo_newGoals : Int64) (mo_newBoxes : Int64) (mo_newPerson : Int32) (mo_newWidth : Int32) (mo_kept : Int32) (mo_many : Int32) (mo_taken : Int32) (mo_length : Int32) (v1 : Int64) (post : Int32 → Prop) (h : MO_isDone mo_goals v1 post) (sz : Nat) : Met l yX6_isDone (Cond.code yX6_isDone cX6_isDone 3 (some .boolean) :: wAll) (rm_MO_isDone) (gPc G [.ref hMO, .long v1] [cMO hMO mo_thrown mo_size hTM mo_isBoard mo_width mo_height mo_person mo_moves mo_pushes mo_floor mo_goals mo_boxes mo_newFloor mo_newGoals mo_newBoxes mo_newPerson mo_newWidth mo_kept hDO mo_many mo_taken mo_length hXB hXC hXF hXY hXS hXP hFA hLE] sz) (gQi G (fun (r : Int32) (u : Unit) => post r ) (fun (u : Unit) => [cMO hMO mo_thrown mo_size hTM mo_isBoard mo_width mo_height mo_person mo_moves mo_pushes mo_floor mo_goals mo_boxes mo_newFloor mo_newGoals mo_newBoxes mo_newPerson mo_newWidth mo_kept hDO mo_many mo_taken mo_length hXB hXC hXF hXY hXS hXP hFA hLE]) (va_A [cMO hMO mo_thrown mo_size hTM mo_isBoard mo_width mo_height mo_person mo_moves mo_pushes mo_floor mo_goals mo_boxes mo_newFloor mo_newGoals mo_newBoxes mo_newPerson mo_newWidth mo_kept hDO mo_many mo_taken mo_length hXB hXC hXF hXY hXS hXP hFA hLE] sz)) 0 0 (va_A [cMO hMO mo_thrown mo_size hTM mo_isBoard mo_width mo_height mo_person mo_moves mo_pushes mo_floor mo_goals mo_boxes mo_newFloor mo_newGoals mo_newBoxes mo_newPerson mo_newWidth mo_kept hDO mo_many mo_taken mo_length hXB hXC hXF hXY hXS hXP hFA hLE] sz) := by
  refine Met.ofW (cc := cX6_isDone) (maxL := 3) (ret := (some .boolean)) (by decide) rfl ?_
  intro p e s m args below meth c s₁ B hml hv
  obtain ⟨rfl, hsz, hP, hK, hD0⟩ := hv
  subst hsz
  have X := gX.ofB (ws := [cMO hMO mo_thrown mo_size hTM mo_isBoard mo_width mo_height mo_person mo_moves mo_pushes mo_floor mo_goals mo_boxes mo_newFloor mo_newGoals mo_newBoxes mo_newPerson mo_newWidth mo_kept hDO mo_many mo_taken mo_length hXB hXC hXF hXY hXS hXP hFA hLE]) B hml hK hD0
  have hD := hD0.self (sz := s.heap.size)
  generalize hAe : va_A [cMO hMO mo_thrown mo_size hTM mo_isBoard mo_width mo_height mo_person mo_moves mo_pushes mo_floor mo_goals mo_boxes mo_newFloor mo_newGoals mo_newBoxes mo_newPerson mo_newWidth mo_kept hDO mo_many mo_taken mo_length hXB hXC hXF hXY hXS hXP hFA hLE] s.heap.size = A at X hD ⊢
  have hS : va_S A s.heap s.heap [] := va_S.rf
  have hl := lv_entry ([.ref hMO, .long v1]) (n := 3) (Nat.le_of_ble_eq_true rfl)
  rw [lg_entry_eq]
  generalize (lg_sl ([.ref hMO, .long v1]) ++ List.replicate (3 - (lg_sl ([.ref hMO, .long v1])).length) Slot.unset).toArray = ls at hl ⊢
  have hl : lv_has ls 3 [(0, .ref hMO), (1, .long v1)] := hl
  dsimp only [headSpec]
  unfold MO_isDone at h
  refine lv_aload_n X.1 X.2.1 dX6_isDone_0 rfl (lv_at hl 0 rfl) ?_
  refine g_get X hP 0 6 10 (v := .long mo_goals) rfl rfl inX6 (by decide) fl_X6_94 rfl dX6_isDone_1 ?_
  refine lv_lload_n X.1 X.2.1 dX6_isDone_4 rfl (lv_at hl 1 rfl) ?_
  refine lv_ldc2 (v := (-1 : Int64)) X.1 X.2.1 X.2.2.2.1 (X.2.2.2.2.1 _ cn_X6_116) dX6_isDone_5 ?_
  refine lv_lxor X.1 X.2.1 dX6_isDone_8 ?_
  refine lv_land X.1 X.2.1 dX6_isDone_9 ?_
  refine lv_lconst (v := (0 : Int64)) X.1 X.2.1 dX6_isDone_10 (by decide) ?_
  refine g_lcmp_ne (tgt := 19) X dX6_isDone_11 dX6_isDone_12 (by decide) (fun hc => ?_) (fun hc => ?_)
  · replace h := Eq.mp (if_neg hc) h
    refine lv_iconst (v := (0 : Int32)) X.1 X.2.1 dX6_isDone_19 (by decide) ?_
    exact g_zret X (by decide) () h hP hD hS dX6_isDone_20
  · replace h := Eq.mp (if_pos hc) h
    refine lv_iconst (v := (1 : Int32)) X.1 X.2.1 dX6_isDone_15 (by decide) ?_
    refine lv_goto (tgt := 20) X.1 X.2.1 dX6_isDone_16 (by decide) ?_
    exact g_zret X (by decide) () h hP hD hS dX6_isDone_20
abbrev rm_MO_told : Room := { frames := 1, cells := 0, slots := 0, locals := 23 }
set_option maxHeartbeats 4000000 in
set_option maxRecDepth 100000 in
theorem c_MO_told (l : Launch) (G : gEnv) (hMO : Nat) (hTM : Nat) (hDO : Nat) (hXB : Nat) (hXC : Nat) (hXF : Nat) (hXY : Nat) (hXS : Nat) (hXP : Nat) (hFA : Nat) (hLE : Nat) (mo_thrown : Int32) (mo_size : Int32) (mo_isBoard : Int32) (mo_width : Int32) (mo_height : Int32) (mo_person : Int32) (mo_moves : Int32) (mo_pushes : Int32) (mo_floor : Int64) (mo_goals : Int64) (mo_boxes : Int64) (mo_newFloor : Int64) (mo_newGoals : Int64) (mo_newBoxes : Int64) (mo_newPerson : Int32) (mo_newWidth : Int32) (mo_kept : Int32) (mo_many : Int32) (mo_taken : Int32) (mo_length : Int32) (v1 : Int32) (post : Int32 → Int32 → Prop) (h : MO_told mo_isBoard mo_width mo_height mo_person mo_moves mo_pushes mo_goals mo_boxes mo_thrown v1 post) (sz : Nat) : Met l yX6_told (Cond.code yX6_told cX6_told 2 (some .int) :: wAll) (rm_MO_told) (gPc G [.ref hMO, .int v1] [cMO hMO mo_thrown mo_size hTM mo_isBoard mo_width mo_height mo_person mo_moves mo_pushes mo_floor mo_goals mo_boxes mo_newFloor mo_newGoals mo_newBoxes mo_newPerson mo_newWidth mo_kept hDO mo_many mo_taken mo_length hXB hXC hXF hXY hXS hXP hFA hLE] sz) (gQi G (fun (r : Int32) (u : Int32) => post r u) (fun (u : Int32) => [cMO hMO u mo_size hTM mo_isBoard mo_width mo_height mo_person mo_moves mo_pushes mo_floor mo_goals mo_boxes mo_newFloor mo_newGoals mo_newBoxes mo_newPerson mo_newWidth mo_kept hDO mo_many mo_taken mo_length hXB hXC hXF hXY hXS hXP hFA hLE]) (va_A [cMO hMO mo_thrown mo_size hTM mo_isBoard mo_width mo_height mo_person mo_moves mo_pushes mo_floor mo_goals mo_boxes mo_newFloor mo_newGoals mo_newBoxes mo_newPerson mo_newWidth mo_kept hDO mo_many mo_taken mo_length hXB hXC hXF hXY hXS hXP hFA hLE] sz)) 0 0 (va_A [cMO hMO mo_thrown mo_size hTM mo_isBoard mo_width mo_height mo_person mo_moves mo_pushes mo_floor mo_goals mo_boxes mo_newFloor mo_newGoals mo_newBoxes mo_newPerson mo_newWidth mo_kept hDO mo_many mo_taken mo_length hXB hXC hXF hXY hXS hXP hFA hLE] sz) := by
  refine Met.ofW (cc := cX6_told) (maxL := 2) (ret := (some .int)) (by decide) rfl ?_
  intro p e s m args below meth c s₁ B hml hv
  obtain ⟨rfl, hsz, hP, hK, hD0⟩ := hv
  subst hsz
  have X := gX.ofB (ws := [cMO hMO mo_thrown mo_size hTM mo_isBoard mo_width mo_height mo_person mo_moves mo_pushes mo_floor mo_goals mo_boxes mo_newFloor mo_newGoals mo_newBoxes mo_newPerson mo_newWidth mo_kept hDO mo_many mo_taken mo_length hXB hXC hXF hXY hXS hXP hFA hLE]) B hml hK hD0
  have hD := hD0.self (sz := s.heap.size)
  generalize hAe : va_A [cMO hMO mo_thrown mo_size hTM mo_isBoard mo_width mo_height mo_person mo_moves mo_pushes mo_floor mo_goals mo_boxes mo_newFloor mo_newGoals mo_newBoxes mo_newPerson mo_newWidth mo_kept hDO mo_many mo_taken mo_length hXB hXC hXF hXY hXS hXP hFA hLE] s.heap.size = A at X hD ⊢
  have hS : va_S A s.heap s.heap [] := va_S.rf
  have hl := lv_entry ([.ref hMO, .int v1]) (n := 2) (Nat.le_of_ble_eq_true rfl)
  rw [lg_entry_eq]
  generalize (lg_sl ([.ref hMO, .int v1]) ++ List.replicate (2 - (lg_sl ([.ref hMO, .int v1])).length) Slot.unset).toArray = ls at hl ⊢
  have hl : lv_has ls 2 [(0, .ref hMO), (1, .int v1)] := hl
  dsimp only [headSpec]
  unfold MO_told at h
  refine lv_aload_n X.1 X.2.1 dX6_told_0 rfl (lv_at hl 0 rfl) ?_
  refine lv_iconst (v := (0 : Int32)) X.1 X.2.1 dX6_told_1 (by decide) ?_
  refine g_put X hP hD hS 0 6 0 (v := .int (0 : Int32)) rfl rfl inX6 tyX6 tyX6_ok nmX6 (by decide) fl_X6_42 rfl rfl rfl rfl (Nat.le_of_ble_eq_true rfl) dX6_told_2 (fun H locs hP hD hS => ?_)
  replace hP : va_P G.1 gCl [cMO hMO (0 : Int32) mo_size hTM mo_isBoard mo_width mo_height mo_person mo_moves mo_pushes mo_floor mo_goals mo_boxes mo_newFloor mo_newGoals mo_newBoxes mo_newPerson mo_newWidth mo_kept hDO mo_many mo_taken mo_length hXB hXC hXF hXY hXS hXP hFA hLE] H := hP
  replace hD : va_D A [cMO hMO (0 : Int32) mo_size hTM mo_isBoard mo_width mo_height mo_person mo_moves mo_pushes mo_floor mo_goals mo_boxes mo_newFloor mo_newGoals mo_newBoxes mo_newPerson mo_newWidth mo_kept hDO mo_many mo_taken mo_length hXB hXC hXF hXY hXS hXP hFA hLE] := hD
  refine lv_iload_n X.1 X.2.1 dX6_told_5 rfl (lv_at hl 1 rfl) ?_
  by_cases hc0 : v1 = (0 : Int32)
  · replace h := Eq.mp (if_pos hc0) h
    refine lv_tableIn (tgt := 56) X.1 X.2.1 dX6_told_6 (by rw [hc0]; decide) (by rw [hc0]; decide) (by rw [hc0] <;> rfl) (by decide) ?_
    refine lv_aload_n X.1 X.2.1 dX6_told_56 rfl (lv_at hl 0 rfl) ?_
    refine g_get X hP 0 6 4 (v := .int mo_width) rfl rfl inX6 (by decide) fl_X6_46 rfl dX6_told_57 ?_
    exact g_iret X (0 : Int32) h hP hD hS dX6_told_60
  replace h := Eq.mp (if_neg hc0) h
  by_cases hc1 : v1 = (1 : Int32)
  · replace h := Eq.mp (if_pos hc1) h
    refine lv_tableIn (tgt := 61) X.1 X.2.1 dX6_told_6 (by rw [hc1]; decide) (by rw [hc1]; decide) (by rw [hc1] <;> rfl) (by decide) ?_
    refine lv_aload_n X.1 X.2.1 dX6_told_61 rfl (lv_at hl 0 rfl) ?_
    refine g_get X hP 0 6 5 (v := .int mo_height) rfl rfl inX6 (by decide) fl_X6_49 rfl dX6_told_62 ?_
    exact g_iret X (0 : Int32) h hP hD hS dX6_told_65
  replace h := Eq.mp (if_neg hc1) h
  by_cases hc2 : v1 = (2 : Int32)
  · replace h := Eq.mp (if_pos hc2) h
    refine lv_tableIn (tgt := 66) X.1 X.2.1 dX6_told_6 (by rw [hc2]; decide) (by rw [hc2]; decide) (by rw [hc2] <;> rfl) (by decide) ?_
    refine lv_aload_n X.1 X.2.1 dX6_told_66 rfl (lv_at hl 0 rfl) ?_
    refine g_get X hP 0 6 11 (v := .long mo_boxes) rfl rfl inX6 (by decide) fl_X6_97 rfl dX6_told_67 ?_
    refine g_ci (wr := [cMO hMO (0 : Int32) mo_size hTM mo_isBoard mo_width mo_height mo_person mo_moves mo_pushes mo_floor mo_goals mo_boxes mo_newFloor mo_newGoals mo_newBoxes mo_newPerson mo_newWidth mo_kept hDO mo_many mo_taken mo_length hXB hXC hXF hXY hXS hXP hFA hLE]) X [] [0] (g_rS (As := [.long mo_boxes]) (rest := []) X (c_MO_countOf l G mo_boxes _ h _) lk_X6_75 rfl rfl ⟨Nat.le_of_ble_eq_true rfl, Nat.le_of_ble_eq_true rfl⟩ hP hD hS [] rfl rfl rfl hl.1 rfl (Nat.le_of_ble_eq_true rfl) dX6_told_70 ⟨Nat.le_of_ble_eq_true rfl, Nat.le_of_ble_eq_true rfl⟩) hP hD hS rfl rfl rfl (by decide) (fun r_1 u H locs h hP hD hS => ?_)
    try dsimp only at h
    replace hP := hP.sub (ws' := [cMO hMO (0 : Int32) mo_size hTM mo_isBoard mo_width mo_height mo_person mo_moves mo_pushes mo_floor mo_goals mo_boxes mo_newFloor mo_newGoals mo_newBoxes mo_newPerson mo_newWidth mo_kept hDO mo_many mo_taken mo_length hXB hXC hXF hXY hXS hXP hFA hLE]) [0] rfl
    replace hD := hD.sub (ws' := [cMO hMO (0 : Int32) mo_size hTM mo_isBoard mo_width mo_height mo_person mo_moves mo_pushes mo_floor mo_goals mo_boxes mo_newFloor mo_newGoals mo_newBoxes mo_newPerson mo_newWidth mo_kept hDO mo_many mo_taken mo_length hXB hXC hXF hXY hXS hXP hFA hLE]) [0] rfl rfl
    exact g_iret X (0 : Int32) h hP hD hS dX6_told_73
  replace h := Eq.mp (if_neg hc2) h
  by_cases hc3 : v1 = (3 : Int32)
  · replace h := Eq.mp (if_pos hc3) h
    refine lv_tableIn (tgt := 74) X.1 X.2.1 dX6_told_6 (by rw [hc3]; decide) (by rw [hc3]; decide) (by rw [hc3] <;> rfl) (by decide) ?_
    refine lv_aload_n X.1 X.2.1 dX6_told_74 rfl (lv_at hl 0 rfl) ?_
    refine g_get X hP 0 6 10 (v := .long mo_goals) rfl rfl inX6 (by decide) fl_X6_94 rfl dX6_told_75 ?_
    refine g_ci (wr := [cMO hMO (0 : Int32) mo_size hTM mo_isBoard mo_width mo_height mo_person mo_moves mo_pushes mo_floor mo_goals mo_boxes mo_newFloor mo_newGoals mo_newBoxes mo_newPerson mo_newWidth mo_kept hDO mo_many mo_taken mo_length hXB hXC hXF hXY hXS hXP hFA hLE]) X [] [0] (g_rS (As := [.long mo_goals]) (rest := []) X (c_MO_countOf l G mo_goals _ h _) lk_X6_75 rfl rfl ⟨Nat.le_of_ble_eq_true rfl, Nat.le_of_ble_eq_true rfl⟩ hP hD hS [] rfl rfl rfl hl.1 rfl (Nat.le_of_ble_eq_true rfl) dX6_told_78 ⟨Nat.le_of_ble_eq_true rfl, Nat.le_of_ble_eq_true rfl⟩) hP hD hS rfl rfl rfl (by decide) (fun r_2 u H locs h hP hD hS => ?_)
    try dsimp only at h
    replace hP := hP.sub (ws' := [cMO hMO (0 : Int32) mo_size hTM mo_isBoard mo_width mo_height mo_person mo_moves mo_pushes mo_floor mo_goals mo_boxes mo_newFloor mo_newGoals mo_newBoxes mo_newPerson mo_newWidth mo_kept hDO mo_many mo_taken mo_length hXB hXC hXF hXY hXS hXP hFA hLE]) [0] rfl
    replace hD := hD.sub (ws' := [cMO hMO (0 : Int32) mo_size hTM mo_isBoard mo_width mo_height mo_person mo_moves mo_pushes mo_floor mo_goals mo_boxes mo_newFloor mo_newGoals mo_newBoxes mo_newPerson mo_newWidth mo_kept hDO mo_many mo_taken mo_length hXB hXC hXF hXY hXS hXP hFA hLE]) [0] rfl rfl
    exact g_iret X (0 : Int32) h hP hD hS dX6_told_81
  replace h := Eq.mp (if_neg hc3) h
  by_cases hc4 : v1 = (4 : Int32)
  · replace h := Eq.mp (if_pos hc4) h
    refine lv_tableIn (tgt := 82) X.1 X.2.1 dX6_told_6 (by rw [hc4]; decide) (by rw [hc4]; decide) (by rw [hc4] <;> rfl) (by decide) ?_
    refine lv_aload_n X.1 X.2.1 dX6_told_82 rfl (lv_at hl 0 rfl) ?_
    refine g_get X hP 0 6 11 (v := .long mo_boxes) rfl rfl inX6 (by decide) fl_X6_97 rfl dX6_told_83 ?_
    refine lv_aload_n X.1 X.2.1 dX6_told_86 rfl (lv_at hl 0 rfl) ?_
    refine g_get X hP 0 6 10 (v := .long mo_goals) rfl rfl inX6 (by decide) fl_X6_94 rfl dX6_told_87 ?_
    refine lv_land X.1 X.2.1 dX6_told_90 ?_
    refine g_ci (wr := [cMO hMO (0 : Int32) mo_size hTM mo_isBoard mo_width mo_height mo_person mo_moves mo_pushes mo_floor mo_goals mo_boxes mo_newFloor mo_newGoals mo_newBoxes mo_newPerson mo_newWidth mo_kept hDO mo_many mo_taken mo_length hXB hXC hXF hXY hXS hXP hFA hLE]) X [] [0] (g_rS (As := [.long (mo_boxes &&& mo_goals)]) (rest := []) X (c_MO_countOf l G (mo_boxes &&& mo_goals) _ h _) lk_X6_75 rfl rfl ⟨Nat.le_of_ble_eq_true rfl, Nat.le_of_ble_eq_true rfl⟩ hP hD hS [] rfl rfl rfl hl.1 rfl (Nat.le_of_ble_eq_true rfl) dX6_told_91 ⟨Nat.le_of_ble_eq_true rfl, Nat.le_of_ble_eq_true rfl⟩) hP hD hS rfl rfl rfl (by decide) (fun r_3 u H locs h hP hD hS => ?_)
    try dsimp only at h
    replace hP := hP.sub (ws' := [cMO hMO (0 : Int32) mo_size hTM mo_isBoard mo_width mo_height mo_person mo_moves mo_pushes mo_floor mo_goals mo_boxes mo_newFloor mo_newGoals mo_newBoxes mo_newPerson mo_newWidth mo_kept hDO mo_many mo_taken mo_length hXB hXC hXF hXY hXS hXP hFA hLE]) [0] rfl
    replace hD := hD.sub (ws' := [cMO hMO (0 : Int32) mo_size hTM mo_isBoard mo_width mo_height mo_person mo_moves mo_pushes mo_floor mo_goals mo_boxes mo_newFloor mo_newGoals mo_newBoxes mo_newPerson mo_newWidth mo_kept hDO mo_many mo_taken mo_length hXB hXC hXF hXY hXS hXP hFA hLE]) [0] rfl rfl
    exact g_iret X (0 : Int32) h hP hD hS dX6_told_94
  replace h := Eq.mp (if_neg hc4) h
  by_cases hc5 : v1 = (5 : Int32)
  · replace h := Eq.mp (if_pos hc5) h
    refine lv_tableIn (tgt := 95) X.1 X.2.1 dX6_told_6 (by rw [hc5]; decide) (by rw [hc5]; decide) (by rw [hc5] <;> rfl) (by decide) ?_
    refine lv_aload_n X.1 X.2.1 dX6_told_95 rfl (lv_at hl 0 rfl) ?_
    refine g_get X hP 0 6 7 (v := .int mo_moves) rfl rfl inX6 (by decide) fl_X6_103 rfl dX6_told_96 ?_
    exact g_iret X (0 : Int32) h hP hD hS dX6_told_99
  replace h := Eq.mp (if_neg hc5) h
  by_cases hc6 : v1 = (6 : Int32)
  · replace h := Eq.mp (if_pos hc6) h
    refine lv_tableIn (tgt := 100) X.1 X.2.1 dX6_told_6 (by rw [hc6]; decide) (by rw [hc6]; decide) (by rw [hc6] <;> rfl) (by decide) ?_
    refine lv_aload_n X.1 X.2.1 dX6_told_100 rfl (lv_at hl 0 rfl) ?_
    refine g_get X hP 0 6 8 (v := .int mo_pushes) rfl rfl inX6 (by decide) fl_X6_106 rfl dX6_told_101 ?_
    exact g_iret X (0 : Int32) h hP hD hS dX6_told_104
  replace h := Eq.mp (if_neg hc6) h
  by_cases hc7 : v1 = (7 : Int32)
  · replace h := Eq.mp (if_pos hc7) h
    refine lv_tableIn (tgt := 105) X.1 X.2.1 dX6_told_6 (by rw [hc7]; decide) (by rw [hc7]; decide) (by rw [hc7] <;> rfl) (by decide) ?_
    refine lv_aload_n X.1 X.2.1 dX6_told_105 rfl (lv_at hl 0 rfl) ?_
    refine g_get X hP 0 6 3 (v := .int mo_isBoard) rfl rfl inX6 (by decide) fl_X6_83 rfl dX6_told_106 ?_
    refine lv_if_eq (tgt := 123) X.1 X.2.1 dX6_told_109 (by decide) (fun hc => ?_) (fun hc => ?_)
    · replace h := Eq.mp (if_pos hc) h
      refine lv_iconst (v := (-1 : Int32)) X.1 X.2.1 dX6_told_123 (by decide) ?_
      exact g_iret X (0 : Int32) h hP hD hS dX6_told_124
    · replace h := Eq.mp (if_neg hc) h
      refine lv_aload_n X.1 X.2.1 dX6_told_112 rfl (lv_at hl 0 rfl) ?_
      refine lv_aload_n X.1 X.2.1 dX6_told_113 rfl (lv_at hl 0 rfl) ?_
      refine g_get X hP 0 6 6 (v := .int mo_person) rfl rfl inX6 (by decide) fl_X6_100 rfl dX6_told_114 ?_
      refine g_ci (wr := []) X [0] [] (g_rV (As := [.int mo_person]) (rest := []) X (c_MO_number l G hMO hTM hDO hXB hXC hXF hXY hXS hXP hFA hLE (0 : Int32) mo_size mo_isBoard mo_width mo_height mo_person mo_moves mo_pushes mo_floor mo_goals mo_boxes mo_newFloor mo_newGoals mo_newBoxes mo_newPerson mo_newWidth mo_kept mo_many mo_taken mo_length mo_person _ h _) lk_X6_132 rfl rfl ⟨Nat.le_of_ble_eq_true rfl, Nat.le_of_ble_eq_true rfl⟩ hP hD hS [0] rfl rfl 0 6 rfl rfl rfl hl.1 rfl (Nat.le_of_ble_eq_true rfl) dX6_told_117 ⟨Nat.le_of_ble_eq_true rfl, Nat.le_of_ble_eq_true rfl⟩) hP hD hS rfl rfl rfl (by decide) (fun r_4 u H locs h hP hD hS => ?_)
      try dsimp only at h
      replace hP := hP.sub (ws' := [cMO hMO (0 : Int32) mo_size hTM mo_isBoard mo_width mo_height mo_person mo_moves mo_pushes mo_floor mo_goals mo_boxes mo_newFloor mo_newGoals mo_newBoxes mo_newPerson mo_newWidth mo_kept hDO mo_many mo_taken mo_length hXB hXC hXF hXY hXS hXP hFA hLE]) [0] rfl
      replace hD := hD.sub (ws' := [cMO hMO (0 : Int32) mo_size hTM mo_isBoard mo_width mo_height mo_person mo_moves mo_pushes mo_floor mo_goals mo_boxes mo_newFloor mo_newGoals mo_newBoxes mo_newPerson mo_newWidth mo_kept hDO mo_many mo_taken mo_length hXB hXC hXF hXY hXS hXP hFA hLE]) [0] rfl rfl
      refine lv_goto (tgt := 124) X.1 X.2.1 dX6_told_120 (by decide) ?_
      exact g_iret X (0 : Int32) h hP hD hS dX6_told_124
  replace h := Eq.mp (if_neg hc7) h
  by_cases hc8 : v1 = (8 : Int32)
  · replace h := Eq.mp (if_pos hc8) h
    refine lv_tableIn (tgt := 125) X.1 X.2.1 dX6_told_6 (by rw [hc8]; decide) (by rw [hc8]; decide) (by rw [hc8] <;> rfl) (by decide) ?_
    refine lv_aload_n X.1 X.2.1 dX6_told_125 rfl (lv_at hl 0 rfl) ?_
    refine g_get X hP 0 6 3 (v := .int mo_isBoard) rfl rfl inX6 (by decide) fl_X6_83 rfl dX6_told_126 ?_
    refine lv_if_eq (tgt := 147) X.1 X.2.1 dX6_told_129 (by decide) (fun hc => ?_) (fun hc => ?_)
    · replace h := Eq.mp (if_pos hc) h
      refine lv_iconst (v := (0 : Int32)) X.1 X.2.1 dX6_told_147 (by decide) ?_
      exact g_iret X (0 : Int32) h hP hD hS dX6_told_148
    · replace h := Eq.mp (if_neg hc) h
      refine lv_aload_n X.1 X.2.1 dX6_told_132 rfl (lv_at hl 0 rfl) ?_
      refine lv_aload_n X.1 X.2.1 dX6_told_133 rfl (lv_at hl 0 rfl) ?_
      refine g_get X hP 0 6 11 (v := .long mo_boxes) rfl rfl inX6 (by decide) fl_X6_97 rfl dX6_told_134 ?_
      refine g_ci (wr := []) X [0] [] (g_rV (As := [.long mo_boxes]) (rest := []) X (c_MO_isDone l G hMO hTM hDO hXB hXC hXF hXY hXS hXP hFA hLE (0 : Int32) mo_size mo_isBoard mo_width mo_height mo_person mo_moves mo_pushes mo_floor mo_goals mo_boxes mo_newFloor mo_newGoals mo_newBoxes mo_newPerson mo_newWidth mo_kept mo_many mo_taken mo_length mo_boxes _ h _) lk_X6_135 rfl rfl ⟨Nat.le_of_ble_eq_true rfl, Nat.le_of_ble_eq_true rfl⟩ hP hD hS [0] rfl rfl 0 6 rfl rfl rfl hl.1 rfl (Nat.le_of_ble_eq_true rfl) dX6_told_137 ⟨Nat.le_of_ble_eq_true rfl, Nat.le_of_ble_eq_true rfl⟩) hP hD hS rfl rfl rfl (by decide) (fun r_5 u H locs h hP hD hS => ?_)
      try dsimp only at h
      replace hP := hP.sub (ws' := [cMO hMO (0 : Int32) mo_size hTM mo_isBoard mo_width mo_height mo_person mo_moves mo_pushes mo_floor mo_goals mo_boxes mo_newFloor mo_newGoals mo_newBoxes mo_newPerson mo_newWidth mo_kept hDO mo_many mo_taken mo_length hXB hXC hXF hXY hXS hXP hFA hLE]) [0] rfl
      replace hD := hD.sub (ws' := [cMO hMO (0 : Int32) mo_size hTM mo_isBoard mo_width mo_height mo_person mo_moves mo_pushes mo_floor mo_goals mo_boxes mo_newFloor mo_newGoals mo_newBoxes mo_newPerson mo_newWidth mo_kept hDO mo_many mo_taken mo_length hXB hXC hXF hXY hXS hXP hFA hLE]) [0] rfl rfl
      refine lv_if_eq (tgt := 147) X.1 X.2.1 dX6_told_140 (by decide) (fun hc => ?_) (fun hc => ?_)
      · replace h := Eq.mp (if_pos hc) h
        refine lv_iconst (v := (0 : Int32)) X.1 X.2.1 dX6_told_147 (by decide) ?_
        exact g_iret X (0 : Int32) h hP hD hS dX6_told_148
      · replace h := Eq.mp (if_neg hc) h
        refine lv_iconst (v := (1 : Int32)) X.1 X.2.1 dX6_told_143 (by decide) ?_
        refine lv_goto (tgt := 148) X.1 X.2.1 dX6_told_144 (by decide) ?_
        exact g_iret X (0 : Int32) h hP hD hS dX6_told_148
  replace h := Eq.mp (if_neg hc8) h
  refine lv_tableOut (tgt := 149) X.1 X.2.1 dX6_told_6 (by have q0 := lv_neT (a := 0) hc0 (by decide); have q1 := lv_neT (a := 1) hc1 (by decide); have q2 := lv_neT (a := 2) hc2 (by decide); have q3 := lv_neT (a := 3) hc3 (by decide); have q4 := lv_neT (a := 4) hc4 (by decide); have q5 := lv_neT (a := 5) hc5 (by decide); have q6 := lv_neT (a := 6) hc6 (by decide); have q7 := lv_neT (a := 7) hc7 (by decide); have q8 := lv_neT (a := 8) hc8 (by decide); omega) (by decide) ?_
  refine lv_iconst (v := (-1 : Int32)) X.1 X.2.1 dX6_told_149 (by decide) ?_
  exact g_iret X (0 : Int32) h hP hD hS dX6_told_150
abbrev rm_MO_picture : Room := { frames := 1, cells := 0, slots := 0, locals := 22 }
set_option maxHeartbeats 4000000 in
set_option maxRecDepth 100000 in
theorem c_MO_picture (l : Launch) (G : gEnv) (hMO : Nat) (hTM : Nat) (hDO : Nat) (hXB : Nat) (hXC : Nat) (hXF : Nat) (hXY : Nat) (hXS : Nat) (hXP : Nat) (hFA : Nat) (hLE : Nat) (mo_thrown : Int32) (mo_size : Int32) (mo_isBoard : Int32) (mo_width : Int32) (mo_height : Int32) (mo_person : Int32) (mo_moves : Int32) (mo_pushes : Int32) (mo_floor : Int64) (mo_goals : Int64) (mo_boxes : Int64) (mo_newFloor : Int64) (mo_newGoals : Int64) (mo_newBoxes : Int64) (mo_newPerson : Int32) (mo_newWidth : Int32) (mo_kept : Int32) (mo_many : Int32) (mo_taken : Int32) (mo_length : Int32) (v1 : Int32) (post : Int32 → Int32 → Prop) (h : MO_picture mo_width mo_height mo_person mo_floor mo_goals mo_boxes mo_thrown v1 post) (sz : Nat) : Met l yX6_picture (Cond.code yX6_picture cX6_picture 4 (some .int) :: wAll) (rm_MO_picture) (gPc G [.ref hMO, .int v1] [cMO hMO mo_thrown mo_size hTM mo_isBoard mo_width mo_height mo_person mo_moves mo_pushes mo_floor mo_goals mo_boxes mo_newFloor mo_newGoals mo_newBoxes mo_newPerson mo_newWidth mo_kept hDO mo_many mo_taken mo_length hXB hXC hXF hXY hXS hXP hFA hLE] sz) (gQi G (fun (r : Int32) (u : Int32) => post r u) (fun (u : Int32) => [cMO hMO u mo_size hTM mo_isBoard mo_width mo_height mo_person mo_moves mo_pushes mo_floor mo_goals mo_boxes mo_newFloor mo_newGoals mo_newBoxes mo_newPerson mo_newWidth mo_kept hDO mo_many mo_taken mo_length hXB hXC hXF hXY hXS hXP hFA hLE]) (va_A [cMO hMO mo_thrown mo_size hTM mo_isBoard mo_width mo_height mo_person mo_moves mo_pushes mo_floor mo_goals mo_boxes mo_newFloor mo_newGoals mo_newBoxes mo_newPerson mo_newWidth mo_kept hDO mo_many mo_taken mo_length hXB hXC hXF hXY hXS hXP hFA hLE] sz)) 0 0 (va_A [cMO hMO mo_thrown mo_size hTM mo_isBoard mo_width mo_height mo_person mo_moves mo_pushes mo_floor mo_goals mo_boxes mo_newFloor mo_newGoals mo_newBoxes mo_newPerson mo_newWidth mo_kept hDO mo_many mo_taken mo_length hXB hXC hXF hXY hXS hXP hFA hLE] sz) := by
  refine Met.ofW (cc := cX6_picture) (maxL := 4) (ret := (some .int)) (by decide) rfl ?_
  intro p e s m args below meth c s₁ B hml hv
  obtain ⟨rfl, hsz, hP, hK, hD0⟩ := hv
  subst hsz
  have X := gX.ofB (ws := [cMO hMO mo_thrown mo_size hTM mo_isBoard mo_width mo_height mo_person mo_moves mo_pushes mo_floor mo_goals mo_boxes mo_newFloor mo_newGoals mo_newBoxes mo_newPerson mo_newWidth mo_kept hDO mo_many mo_taken mo_length hXB hXC hXF hXY hXS hXP hFA hLE]) B hml hK hD0
  have hD := hD0.self (sz := s.heap.size)
  generalize hAe : va_A [cMO hMO mo_thrown mo_size hTM mo_isBoard mo_width mo_height mo_person mo_moves mo_pushes mo_floor mo_goals mo_boxes mo_newFloor mo_newGoals mo_newBoxes mo_newPerson mo_newWidth mo_kept hDO mo_many mo_taken mo_length hXB hXC hXF hXY hXS hXP hFA hLE] s.heap.size = A at X hD ⊢
  have hS : va_S A s.heap s.heap [] := va_S.rf
  have hl := lv_entry ([.ref hMO, .int v1]) (n := 4) (Nat.le_of_ble_eq_true rfl)
  rw [lg_entry_eq]
  generalize (lg_sl ([.ref hMO, .int v1]) ++ List.replicate (4 - (lg_sl ([.ref hMO, .int v1])).length) Slot.unset).toArray = ls at hl ⊢
  have hl : lv_has ls 4 [(0, .ref hMO), (1, .int v1)] := hl
  dsimp only [headSpec]
  unfold MO_picture at h
  refine lv_aload_n X.1 X.2.1 dX6_picture_0 rfl (lv_at hl 0 rfl) ?_
  refine lv_iconst (v := (0 : Int32)) X.1 X.2.1 dX6_picture_1 (by decide) ?_
  refine g_put X hP hD hS 0 6 0 (v := .int (0 : Int32)) rfl rfl inX6 tyX6 tyX6_ok nmX6 (by decide) fl_X6_42 rfl rfl rfl rfl (Nat.le_of_ble_eq_true rfl) dX6_picture_2 (fun H locs hP hD hS => ?_)
  replace hP : va_P G.1 gCl [cMO hMO (0 : Int32) mo_size hTM mo_isBoard mo_width mo_height mo_person mo_moves mo_pushes mo_floor mo_goals mo_boxes mo_newFloor mo_newGoals mo_newBoxes mo_newPerson mo_newWidth mo_kept hDO mo_many mo_taken mo_length hXB hXC hXF hXY hXS hXP hFA hLE] H := hP
  replace hD : va_D A [cMO hMO (0 : Int32) mo_size hTM mo_isBoard mo_width mo_height mo_person mo_moves mo_pushes mo_floor mo_goals mo_boxes mo_newFloor mo_newGoals mo_newBoxes mo_newPerson mo_newWidth mo_kept hDO mo_many mo_taken mo_length hXB hXC hXF hXY hXS hXP hFA hLE] := hD
  refine lv_iload_n X.1 X.2.1 dX6_picture_5 rfl (lv_at hl 1 rfl) ?_
  refine lv_if_lt (tgt := 24) X.1 X.2.1 dX6_picture_6 (by decide) (fun hc => ?_) (fun hc => ?_)
  · replace h := Eq.mp (if_pos hc) h
    refine lv_iconst (v := (-1 : Int32)) X.1 X.2.1 dX6_picture_24 (by decide) ?_
    exact g_iret X (0 : Int32) h hP hD hS dX6_picture_25
  · replace h := Eq.mp (if_neg hc) h
    refine lv_iload_n X.1 X.2.1 dX6_picture_9 rfl (lv_at hl 1 rfl) ?_
    refine lv_aload_n X.1 X.2.1 dX6_picture_10 rfl (lv_at hl 0 rfl) ?_
    refine g_get X hP 0 6 4 (v := .int mo_width) rfl rfl inX6 (by decide) fl_X6_46 rfl dX6_picture_11 ?_
    refine lv_iconst (v := (1 : Int32)) X.1 X.2.1 dX6_picture_14 (by decide) ?_
    refine lv_iadd X.1 X.2.1 dX6_picture_15 ?_
    refine lv_aload_n X.1 X.2.1 dX6_picture_16 rfl (lv_at hl 0 rfl) ?_
    refine g_get X hP 0 6 5 (v := .int mo_height) rfl rfl inX6 (by decide) fl_X6_49 rfl dX6_picture_17 ?_
    refine lv_imul X.1 X.2.1 dX6_picture_20 ?_
    refine lv_icmp_lt (tgt := 26) X.1 X.2.1 dX6_picture_21 (by decide) (fun hc => ?_) (fun hc => ?_)
    · replace h := Eq.mp (if_pos hc) h
      refine lv_iload_n X.1 X.2.1 dX6_picture_26 rfl (lv_at hl 1 rfl) ?_
      refine lv_aload_n X.1 X.2.1 dX6_picture_27 rfl (lv_at hl 0 rfl) ?_
      refine g_get X hP 0 6 4 (v := .int mo_width) rfl rfl inX6 (by decide) fl_X6_46 rfl dX6_picture_28 ?_
      refine lv_iconst (v := (1 : Int32)) X.1 X.2.1 dX6_picture_31 (by decide) ?_
      refine lv_iadd X.1 X.2.1 dX6_picture_32 ?_
      obtain ⟨hne, h⟩ := h
      refine lv_irem X.1 X.2.1 dX6_picture_33 hne ?_
      refine lv_topi (fun v2_1 e_v2_1 => ?_)
      replace h := h v2_1 e_v2_1
      refine lv_istore_n (lv' := [(2, .int v2_1), (0, .ref hMO), (1, .int v1)]) X.1 X.2.1 dX6_picture_34 rfl hl (by decide) rfl (fun ls hl => ?_)
      refine lv_iload_n X.1 X.2.1 dX6_picture_35 rfl (lv_at hl 0 rfl) ?_
      refine lv_aload_n X.1 X.2.1 dX6_picture_36 rfl (lv_at hl 1 rfl) ?_
      refine g_get X hP 0 6 4 (v := .int mo_width) rfl rfl inX6 (by decide) fl_X6_46 rfl dX6_picture_37 ?_
      refine lv_icmp_ne (tgt := 46) X.1 X.2.1 dX6_picture_40 (by decide) (fun hc => ?_) (fun hc => ?_)
      · replace h := Eq.mp (if_neg hc) h
        refine lv_bipush (v := (8 : Int32)) X.1 X.2.1 dX6_picture_46 (by decide) ?_
        refine lv_iload_n X.1 X.2.1 dX6_picture_48 rfl (lv_at hl 2 rfl) ?_
        refine lv_aload_n X.1 X.2.1 dX6_picture_49 rfl (lv_at hl 1 rfl) ?_
        refine g_get X hP 0 6 4 (v := .int mo_width) rfl rfl inX6 (by decide) fl_X6_46 rfl dX6_picture_50 ?_
        refine lv_iconst (v := (1 : Int32)) X.1 X.2.1 dX6_picture_53 (by decide) ?_
        refine lv_iadd X.1 X.2.1 dX6_picture_54 ?_
        obtain ⟨hne, h⟩ := h
        refine lv_idiv X.1 X.2.1 dX6_picture_55 hne ?_
        refine lv_imul X.1 X.2.1 dX6_picture_56 ?_
        refine lv_iload_n X.1 X.2.1 dX6_picture_57 rfl (lv_at hl 0 rfl) ?_
        refine lv_iadd X.1 X.2.1 dX6_picture_58 ?_
        refine lv_topi (fun v3_2 e_v3_2 => ?_)
        replace h := h v3_2 e_v3_2
        refine lv_istore_n (lv' := [(3, .int v3_2), (2, .int v2_1), (0, .ref hMO), (1, .int v1)]) X.1 X.2.1 dX6_picture_59 rfl hl (by decide) rfl (fun ls hl => ?_)
        refine lv_aload_n X.1 X.2.1 dX6_picture_60 rfl (lv_at hl 2 rfl) ?_
        refine g_get X hP 0 6 9 (v := .long mo_floor) rfl rfl inX6 (by decide) fl_X6_87 rfl dX6_picture_61 ?_
        refine lv_iload_n X.1 X.2.1 dX6_picture_64 rfl (lv_at hl 0 rfl) ?_
        refine g_ci (wr := [cMO hMO (0 : Int32) mo_size hTM mo_isBoard mo_width mo_height mo_person mo_moves mo_pushes mo_floor mo_goals mo_boxes mo_newFloor mo_newGoals mo_newBoxes mo_newPerson mo_newWidth mo_kept hDO mo_many mo_taken mo_length hXB hXC hXF hXY hXS hXP hFA hLE]) X [] [0] (g_rS (As := [.long mo_floor, .int v3_2]) (rest := []) X (c_MO_has l G mo_floor v3_2 _ h _) lk_X6_90 rfl rfl ⟨Nat.le_of_ble_eq_true rfl, Nat.le_of_ble_eq_true rfl⟩ hP hD hS [] rfl rfl rfl hl.1 rfl (Nat.le_of_ble_eq_true rfl) dX6_picture_65 ⟨Nat.le_of_ble_eq_true rfl, Nat.le_of_ble_eq_true rfl⟩) hP hD hS rfl rfl rfl (by decide) (fun r_3 u H locs h hP hD hS => ?_)
        try dsimp only at h
        replace hP := hP.sub (ws' := [cMO hMO (0 : Int32) mo_size hTM mo_isBoard mo_width mo_height mo_person mo_moves mo_pushes mo_floor mo_goals mo_boxes mo_newFloor mo_newGoals mo_newBoxes mo_newPerson mo_newWidth mo_kept hDO mo_many mo_taken mo_length hXB hXC hXF hXY hXS hXP hFA hLE]) [0] rfl
        replace hD := hD.sub (ws' := [cMO hMO (0 : Int32) mo_size hTM mo_isBoard mo_width mo_height mo_person mo_moves mo_pushes mo_floor mo_goals mo_boxes mo_newFloor mo_newGoals mo_newBoxes mo_newPerson mo_newWidth mo_kept hDO mo_many mo_taken mo_length hXB hXC hXF hXY hXS hXP hFA hLE]) [0] rfl rfl
        refine lv_if_ne (tgt := 74) X.1 X.2.1 dX6_picture_68 (by decide) (fun hc => ?_) (fun hc => ?_)
        · replace h := Eq.mp (if_neg hc) h
          refine lv_aload_n X.1 X.2.1 dX6_picture_74 rfl (lv_at hl 2 rfl) ?_
          refine g_get X hP 0 6 11 (v := .long mo_boxes) rfl rfl inX6 (by decide) fl_X6_97 rfl dX6_picture_75 ?_
          refine lv_iload_n X.1 X.2.1 dX6_picture_78 rfl (lv_at hl 0 rfl) ?_
          refine g_ci (wr := [cMO hMO (0 : Int32) mo_size hTM mo_isBoard mo_width mo_height mo_person mo_moves mo_pushes mo_floor mo_goals mo_boxes mo_newFloor mo_newGoals mo_newBoxes mo_newPerson mo_newWidth mo_kept hDO mo_many mo_taken mo_length hXB hXC hXF hXY hXS hXP hFA hLE]) X [] [0] (g_rS (As := [.long mo_boxes, .int v3_2]) (rest := []) X (c_MO_has l G mo_boxes v3_2 _ h _) lk_X6_90 rfl rfl ⟨Nat.le_of_ble_eq_true rfl, Nat.le_of_ble_eq_true rfl⟩ hP hD hS [] rfl rfl rfl hl.1 rfl (Nat.le_of_ble_eq_true rfl) dX6_picture_79 ⟨Nat.le_of_ble_eq_true rfl, Nat.le_of_ble_eq_true rfl⟩) hP hD hS rfl rfl rfl (by decide) (fun r_4 u H locs h hP hD hS => ?_)
          try dsimp only at h
          replace hP := hP.sub (ws' := [cMO hMO (0 : Int32) mo_size hTM mo_isBoard mo_width mo_height mo_person mo_moves mo_pushes mo_floor mo_goals mo_boxes mo_newFloor mo_newGoals mo_newBoxes mo_newPerson mo_newWidth mo_kept hDO mo_many mo_taken mo_length hXB hXC hXF hXY hXS hXP hFA hLE]) [0] rfl
          replace hD := hD.sub (ws' := [cMO hMO (0 : Int32) mo_size hTM mo_isBoard mo_width mo_height mo_person mo_moves mo_pushes mo_floor mo_goals mo_boxes mo_newFloor mo_newGoals mo_newBoxes mo_newPerson mo_newWidth mo_kept hDO mo_many mo_taken mo_length hXB hXC hXF hXY hXS hXP hFA hLE]) [0] rfl rfl
          refine lv_if_eq (tgt := 104) X.1 X.2.1 dX6_picture_82 (by decide) (fun hc => ?_) (fun hc => ?_)
          · replace h := Eq.mp (if_pos hc) h
            refine lv_iload_n X.1 X.2.1 dX6_picture_104 rfl (lv_at hl 0 rfl) ?_
            refine lv_aload_n X.1 X.2.1 dX6_picture_105 rfl (lv_at hl 2 rfl) ?_
            refine g_get X hP 0 6 6 (v := .int mo_person) rfl rfl inX6 (by decide) fl_X6_100 rfl dX6_picture_106 ?_
            refine lv_icmp_ne (tgt := 131) X.1 X.2.1 dX6_picture_109 (by decide) (fun hc => ?_) (fun hc => ?_)
            · replace h := Eq.mp (if_neg hc) h
              refine lv_aload_n X.1 X.2.1 dX6_picture_131 rfl (lv_at hl 2 rfl) ?_
              refine g_get X hP 0 6 10 (v := .long mo_goals) rfl rfl inX6 (by decide) fl_X6_94 rfl dX6_picture_132 ?_
              refine lv_iload_n X.1 X.2.1 dX6_picture_135 rfl (lv_at hl 0 rfl) ?_
              refine g_ci (wr := [cMO hMO (0 : Int32) mo_size hTM mo_isBoard mo_width mo_height mo_person mo_moves mo_pushes mo_floor mo_goals mo_boxes mo_newFloor mo_newGoals mo_newBoxes mo_newPerson mo_newWidth mo_kept hDO mo_many mo_taken mo_length hXB hXC hXF hXY hXS hXP hFA hLE]) X [] [0] (g_rS (As := [.long mo_goals, .int v3_2]) (rest := []) X (c_MO_has l G mo_goals v3_2 _ h _) lk_X6_90 rfl rfl ⟨Nat.le_of_ble_eq_true rfl, Nat.le_of_ble_eq_true rfl⟩ hP hD hS [] rfl rfl rfl hl.1 rfl (Nat.le_of_ble_eq_true rfl) dX6_picture_136 ⟨Nat.le_of_ble_eq_true rfl, Nat.le_of_ble_eq_true rfl⟩) hP hD hS rfl rfl rfl (by decide) (fun r_5 u H locs h hP hD hS => ?_)
              try dsimp only at h
              replace hP := hP.sub (ws' := [cMO hMO (0 : Int32) mo_size hTM mo_isBoard mo_width mo_height mo_person mo_moves mo_pushes mo_floor mo_goals mo_boxes mo_newFloor mo_newGoals mo_newBoxes mo_newPerson mo_newWidth mo_kept hDO mo_many mo_taken mo_length hXB hXC hXF hXY hXS hXP hFA hLE]) [0] rfl
              replace hD := hD.sub (ws' := [cMO hMO (0 : Int32) mo_size hTM mo_isBoard mo_width mo_height mo_person mo_moves mo_pushes mo_floor mo_goals mo_boxes mo_newFloor mo_newGoals mo_newBoxes mo_newPerson mo_newWidth mo_kept hDO mo_many mo_taken mo_length hXB hXC hXF hXY hXS hXP hFA hLE]) [0] rfl rfl
              refine lv_if_eq (tgt := 147) X.1 X.2.1 dX6_picture_139 (by decide) (fun hc => ?_) (fun hc => ?_)
              · replace h := Eq.mp (if_pos hc) h
                refine lv_bipush (v := (32 : Int32)) X.1 X.2.1 dX6_picture_147 (by decide) ?_
                exact g_iret X (0 : Int32) h hP hD hS dX6_picture_149
              · replace h := Eq.mp (if_neg hc) h
                refine lv_bipush (v := (46 : Int32)) X.1 X.2.1 dX6_picture_142 (by decide) ?_
                refine lv_goto (tgt := 149) X.1 X.2.1 dX6_picture_144 (by decide) ?_
                exact g_iret X (0 : Int32) h hP hD hS dX6_picture_149
            · replace h := Eq.mp (if_pos hc) h
              refine lv_aload_n X.1 X.2.1 dX6_picture_112 rfl (lv_at hl 2 rfl) ?_
              refine g_get X hP 0 6 10 (v := .long mo_goals) rfl rfl inX6 (by decide) fl_X6_94 rfl dX6_picture_113 ?_
              refine lv_iload_n X.1 X.2.1 dX6_picture_116 rfl (lv_at hl 0 rfl) ?_
              refine g_ci (wr := [cMO hMO (0 : Int32) mo_size hTM mo_isBoard mo_width mo_height mo_person mo_moves mo_pushes mo_floor mo_goals mo_boxes mo_newFloor mo_newGoals mo_newBoxes mo_newPerson mo_newWidth mo_kept hDO mo_many mo_taken mo_length hXB hXC hXF hXY hXS hXP hFA hLE]) X [] [0] (g_rS (As := [.long mo_goals, .int v3_2]) (rest := []) X (c_MO_has l G mo_goals v3_2 _ h _) lk_X6_90 rfl rfl ⟨Nat.le_of_ble_eq_true rfl, Nat.le_of_ble_eq_true rfl⟩ hP hD hS [] rfl rfl rfl hl.1 rfl (Nat.le_of_ble_eq_true rfl) dX6_picture_117 ⟨Nat.le_of_ble_eq_true rfl, Nat.le_of_ble_eq_true rfl⟩) hP hD hS rfl rfl rfl (by decide) (fun r_6 u H locs h hP hD hS => ?_)
              try dsimp only at h
              replace hP := hP.sub (ws' := [cMO hMO (0 : Int32) mo_size hTM mo_isBoard mo_width mo_height mo_person mo_moves mo_pushes mo_floor mo_goals mo_boxes mo_newFloor mo_newGoals mo_newBoxes mo_newPerson mo_newWidth mo_kept hDO mo_many mo_taken mo_length hXB hXC hXF hXY hXS hXP hFA hLE]) [0] rfl
              replace hD := hD.sub (ws' := [cMO hMO (0 : Int32) mo_size hTM mo_isBoard mo_width mo_height mo_person mo_moves mo_pushes mo_floor mo_goals mo_boxes mo_newFloor mo_newGoals mo_newBoxes mo_newPerson mo_newWidth mo_kept hDO mo_many mo_taken mo_length hXB hXC hXF hXY hXS hXP hFA hLE]) [0] rfl rfl
              refine lv_if_eq (tgt := 128) X.1 X.2.1 dX6_picture_120 (by decide) (fun hc => ?_) (fun hc => ?_)
              · replace h := Eq.mp (if_pos hc) h
                refine lv_bipush (v := (64 : Int32)) X.1 X.2.1 dX6_picture_128 (by decide) ?_
                exact g_iret X (0 : Int32) h hP hD hS dX6_picture_130
              · replace h := Eq.mp (if_neg hc) h
                refine lv_bipush (v := (43 : Int32)) X.1 X.2.1 dX6_picture_123 (by decide) ?_
                refine lv_goto (tgt := 130) X.1 X.2.1 dX6_picture_125 (by decide) ?_
                exact g_iret X (0 : Int32) h hP hD hS dX6_picture_130
          · replace h := Eq.mp (if_neg hc) h
            refine lv_aload_n X.1 X.2.1 dX6_picture_85 rfl (lv_at hl 2 rfl) ?_
            refine g_get X hP 0 6 10 (v := .long mo_goals) rfl rfl inX6 (by decide) fl_X6_94 rfl dX6_picture_86 ?_
            refine lv_iload_n X.1 X.2.1 dX6_picture_89 rfl (lv_at hl 0 rfl) ?_
            refine g_ci (wr := [cMO hMO (0 : Int32) mo_size hTM mo_isBoard mo_width mo_height mo_person mo_moves mo_pushes mo_floor mo_goals mo_boxes mo_newFloor mo_newGoals mo_newBoxes mo_newPerson mo_newWidth mo_kept hDO mo_many mo_taken mo_length hXB hXC hXF hXY hXS hXP hFA hLE]) X [] [0] (g_rS (As := [.long mo_goals, .int v3_2]) (rest := []) X (c_MO_has l G mo_goals v3_2 _ h _) lk_X6_90 rfl rfl ⟨Nat.le_of_ble_eq_true rfl, Nat.le_of_ble_eq_true rfl⟩ hP hD hS [] rfl rfl rfl hl.1 rfl (Nat.le_of_ble_eq_true rfl) dX6_picture_90 ⟨Nat.le_of_ble_eq_true rfl, Nat.le_of_ble_eq_true rfl⟩) hP hD hS rfl rfl rfl (by decide) (fun r_7 u H locs h hP hD hS => ?_)
            try dsimp only at h
            replace hP := hP.sub (ws' := [cMO hMO (0 : Int32) mo_size hTM mo_isBoard mo_width mo_height mo_person mo_moves mo_pushes mo_floor mo_goals mo_boxes mo_newFloor mo_newGoals mo_newBoxes mo_newPerson mo_newWidth mo_kept hDO mo_many mo_taken mo_length hXB hXC hXF hXY hXS hXP hFA hLE]) [0] rfl
            replace hD := hD.sub (ws' := [cMO hMO (0 : Int32) mo_size hTM mo_isBoard mo_width mo_height mo_person mo_moves mo_pushes mo_floor mo_goals mo_boxes mo_newFloor mo_newGoals mo_newBoxes mo_newPerson mo_newWidth mo_kept hDO mo_many mo_taken mo_length hXB hXC hXF hXY hXS hXP hFA hLE]) [0] rfl rfl
            refine lv_if_eq (tgt := 101) X.1 X.2.1 dX6_picture_93 (by decide) (fun hc => ?_) (fun hc => ?_)
            · replace h := Eq.mp (if_pos hc) h
              refine lv_bipush (v := (36 : Int32)) X.1 X.2.1 dX6_picture_101 (by decide) ?_
              exact g_iret X (0 : Int32) h hP hD hS dX6_picture_103
            · replace h := Eq.mp (if_neg hc) h
              refine lv_bipush (v := (42 : Int32)) X.1 X.2.1 dX6_picture_96 (by decide) ?_
              refine lv_goto (tgt := 103) X.1 X.2.1 dX6_picture_98 (by decide) ?_
              exact g_iret X (0 : Int32) h hP hD hS dX6_picture_103
        · replace h := Eq.mp (if_pos hc) h
          refine lv_bipush (v := (35 : Int32)) X.1 X.2.1 dX6_picture_71 (by decide) ?_
          exact g_iret X (0 : Int32) h hP hD hS dX6_picture_73
      · replace h := Eq.mp (if_pos hc) h
        refine lv_bipush (v := (10 : Int32)) X.1 X.2.1 dX6_picture_43 (by decide) ?_
        exact g_iret X (0 : Int32) h hP hD hS dX6_picture_45
    · replace h := Eq.mp (if_neg hc) h
      refine lv_iconst (v := (-1 : Int32)) X.1 X.2.1 dX6_picture_24 (by decide) ?_
      exact g_iret X (0 : Int32) h hP hD hS dX6_picture_25
abbrev rm_MO_letter : Room := { frames := 0, cells := 0, slots := 0, locals := 0 }
set_option maxHeartbeats 4000000 in
set_option maxRecDepth 100000 in
theorem s_MO_letter_59 {p : Program} {l : Launch} {e : Env} {s : State} {m : MethodId} {args : Array Value} {below : List Frame} {meth : Method} {c : Code} {G : gEnv} {A : Nat → Prop} {hMO : Nat} {hTM : Nat} {hDO : Nat} {hXB : Nat} {hXC : Nat} {hXF : Nat} {hXY : Nat} {hXS : Nat} {hXP : Nat} {hFA : Nat} {hLE : Nat} {mo_size : Int32} {mo_isBoard : Int32} {mo_width : Int32} {mo_height : Int32} {mo_person : Int32} {mo_moves : Int32} {mo_pushes : Int32} {mo_floor : Int64} {mo_goals : Int64} {mo_boxes : Int64} {mo_newFloor : Int64} {mo_newGoals : Int64} {mo_newBoxes : Int64} {mo_newPerson : Int32} {mo_newWidth : Int32} {mo_many : Int32} {mo_taken : Int32} {mo_length : Int32} {mo_kept : Int32} {aDO : Nat → Int32} {post : Int32 → Int32 → Prop} (X : gX p m meth c cX6_letter 4 RX6 (some .int) s args G A)  : ∀ (mo_thrown : Int32) (v1 : Int32) (t0 : Int32) (H : Heap) (locs : List Loc) (ls : Array Slot), MO_letter_59 mo_kept aDO post mo_thrown v1 t0 → va_P G.1 gCl [cMO hMO mo_thrown mo_size hTM mo_isBoard mo_width mo_height mo_person mo_moves mo_pushes mo_floor mo_goals mo_boxes mo_newFloor mo_newGoals mo_newBoxes mo_newPerson mo_newWidth mo_kept hDO mo_many mo_taken mo_length hXB hXC hXF hXY hXS hXP hFA hLE, cI G hDO 500 aDO] H → va_D A [cMO hMO mo_thrown mo_size hTM mo_isBoard mo_width mo_height mo_person mo_moves mo_pushes mo_floor mo_goals mo_boxes mo_newFloor mo_newGoals mo_newBoxes mo_newPerson mo_newWidth mo_kept hDO mo_many mo_taken mo_length hXB hXC hXF hXY hXS hXP hFA hLE, cI G hDO 500 aDO] → va_S A s.heap H locs → lv_has ls 4 [(0, .ref hMO), (1, .int v1)] → W p l e rm_MO_letter s m args below meth c H locs 0 0 (MQ below (gQi G (fun (r : Int32) (u : Int32) => post r u) (fun (u : Int32) => [cMO hMO u mo_size hTM mo_isBoard mo_width mo_height mo_person mo_moves mo_pushes mo_floor mo_goals mo_boxes mo_newFloor mo_newGoals mo_newBoxes mo_newPerson mo_newWidth mo_kept hDO mo_many mo_taken mo_length hXB hXC hXF hXY hXS hXP hFA hLE, cI G hDO 500 aDO]) A) args s 0 0 A) (F0 m 59 ls [.int t0]) := by
  intro mo_thrown v1 t0 H locs ls h hP hD hS hl
  unfold MO_letter_59 at h
  refine lv_istore_n (lv' := [(3, .int t0), (0, .ref hMO), (1, .int v1)]) X.1 X.2.1 dX6_letter_59 rfl hl (by decide) rfl (fun ls hl => ?_)
  refine lv_aload_n X.1 X.2.1 dX6_letter_60 rfl (lv_at hl 1 rfl) ?_
  refine g_get X hP 0 6 18 (v := .ref hDO) rfl rfl inX6 (by decide) fl_X6_13 rfl dX6_letter_61 ?_
  refine lv_iload_n X.1 X.2.1 dX6_letter_64 rfl (lv_at hl 2 rfl) ?_
  obtain ⟨hin, h⟩ := h
  refine va_iald (D := G.1) X.1 X.2.1 X.k.1 hP 1 0 rfl rfl hin dX6_letter_65 ?_
  refine lv_iconst (v := (3 : Int32)) X.1 X.2.1 dX6_letter_66 (by decide) ?_
  refine lv_icmp_le (tgt := 77) X.1 X.2.1 dX6_letter_67 (by decide) (fun hc => ?_) (fun hc => ?_)
  · replace h := Eq.mp (if_pos hc) h
    refine lv_iload_n X.1 X.2.1 dX6_letter_77 rfl (lv_at hl 0 rfl) ?_
    exact g_iret X mo_thrown h hP hD hS dX6_letter_78
  · replace h := Eq.mp (if_neg hc) h
    refine lv_iload_n X.1 X.2.1 dX6_letter_70 rfl (lv_at hl 0 rfl) ?_
    refine lv_bipush (v := (32 : Int32)) X.1 X.2.1 dX6_letter_71 (by decide) ?_
    refine lv_isub X.1 X.2.1 dX6_letter_73 ?_
    refine lv_goto (tgt := 78) X.1 X.2.1 dX6_letter_74 (by decide) ?_
    exact g_iret X mo_thrown h hP hD hS dX6_letter_78
set_option maxHeartbeats 4000000 in
set_option maxRecDepth 100000 in
theorem c_MO_letter (l : Launch) (G : gEnv) (hMO : Nat) (hTM : Nat) (hDO : Nat) (hXB : Nat) (hXC : Nat) (hXF : Nat) (hXY : Nat) (hXS : Nat) (hXP : Nat) (hFA : Nat) (hLE : Nat) (mo_thrown : Int32) (mo_size : Int32) (mo_isBoard : Int32) (mo_width : Int32) (mo_height : Int32) (mo_person : Int32) (mo_moves : Int32) (mo_pushes : Int32) (mo_floor : Int64) (mo_goals : Int64) (mo_boxes : Int64) (mo_newFloor : Int64) (mo_newGoals : Int64) (mo_newBoxes : Int64) (mo_newPerson : Int32) (mo_newWidth : Int32) (mo_kept : Int32) (mo_many : Int32) (mo_taken : Int32) (mo_length : Int32) (aDO : Nat → Int32) (v1 : Int32) (post : Int32 → Int32 → Prop) (h : MO_letter mo_kept aDO mo_thrown v1 post) (sz : Nat) : Met l yX6_letter (Cond.code yX6_letter cX6_letter 4 (some .int) :: wAll) (rm_MO_letter) (gPc G [.ref hMO, .int v1] [cMO hMO mo_thrown mo_size hTM mo_isBoard mo_width mo_height mo_person mo_moves mo_pushes mo_floor mo_goals mo_boxes mo_newFloor mo_newGoals mo_newBoxes mo_newPerson mo_newWidth mo_kept hDO mo_many mo_taken mo_length hXB hXC hXF hXY hXS hXP hFA hLE, cI G hDO 500 aDO] sz) (gQi G (fun (r : Int32) (u : Int32) => post r u) (fun (u : Int32) => [cMO hMO u mo_size hTM mo_isBoard mo_width mo_height mo_person mo_moves mo_pushes mo_floor mo_goals mo_boxes mo_newFloor mo_newGoals mo_newBoxes mo_newPerson mo_newWidth mo_kept hDO mo_many mo_taken mo_length hXB hXC hXF hXY hXS hXP hFA hLE, cI G hDO 500 aDO]) (va_A [cMO hMO mo_thrown mo_size hTM mo_isBoard mo_width mo_height mo_person mo_moves mo_pushes mo_floor mo_goals mo_boxes mo_newFloor mo_newGoals mo_newBoxes mo_newPerson mo_newWidth mo_kept hDO mo_many mo_taken mo_length hXB hXC hXF hXY hXS hXP hFA hLE, cI G hDO 500 aDO] sz)) 0 0 (va_A [cMO hMO mo_thrown mo_size hTM mo_isBoard mo_width mo_height mo_person mo_moves mo_pushes mo_floor mo_goals mo_boxes mo_newFloor mo_newGoals mo_newBoxes mo_newPerson mo_newWidth mo_kept hDO mo_many mo_taken mo_length hXB hXC hXF hXY hXS hXP hFA hLE, cI G hDO 500 aDO] sz) := by
  refine Met.ofW (cc := cX6_letter) (maxL := 4) (ret := (some .int)) (by decide) rfl ?_
  intro p e s m args below meth c s₁ B hml hv
  obtain ⟨rfl, hsz, hP, hK, hD0⟩ := hv
  subst hsz
  have X := gX.ofB (ws := [cMO hMO mo_thrown mo_size hTM mo_isBoard mo_width mo_height mo_person mo_moves mo_pushes mo_floor mo_goals mo_boxes mo_newFloor mo_newGoals mo_newBoxes mo_newPerson mo_newWidth mo_kept hDO mo_many mo_taken mo_length hXB hXC hXF hXY hXS hXP hFA hLE, cI G hDO 500 aDO]) B hml hK hD0
  have hD := hD0.self (sz := s.heap.size)
  generalize hAe : va_A [cMO hMO mo_thrown mo_size hTM mo_isBoard mo_width mo_height mo_person mo_moves mo_pushes mo_floor mo_goals mo_boxes mo_newFloor mo_newGoals mo_newBoxes mo_newPerson mo_newWidth mo_kept hDO mo_many mo_taken mo_length hXB hXC hXF hXY hXS hXP hFA hLE, cI G hDO 500 aDO] s.heap.size = A at X hD ⊢
  have hS : va_S A s.heap s.heap [] := va_S.rf
  have hl := lv_entry ([.ref hMO, .int v1]) (n := 4) (Nat.le_of_ble_eq_true rfl)
  rw [lg_entry_eq]
  generalize (lg_sl ([.ref hMO, .int v1]) ++ List.replicate (4 - (lg_sl ([.ref hMO, .int v1])).length) Slot.unset).toArray = ls at hl ⊢
  have hl : lv_has ls 4 [(0, .ref hMO), (1, .int v1)] := hl
  dsimp only [headSpec]
  unfold MO_letter at h
  refine lv_aload_n X.1 X.2.1 dX6_letter_0 rfl (lv_at hl 0 rfl) ?_
  refine lv_iconst (v := (0 : Int32)) X.1 X.2.1 dX6_letter_1 (by decide) ?_
  refine g_put X hP hD hS 0 6 0 (v := .int (0 : Int32)) rfl rfl inX6 tyX6 tyX6_ok nmX6 (by decide) fl_X6_42 rfl rfl rfl rfl (Nat.le_of_ble_eq_true rfl) dX6_letter_2 (fun H locs hP hD hS => ?_)
  replace hP : va_P G.1 gCl [cMO hMO (0 : Int32) mo_size hTM mo_isBoard mo_width mo_height mo_person mo_moves mo_pushes mo_floor mo_goals mo_boxes mo_newFloor mo_newGoals mo_newBoxes mo_newPerson mo_newWidth mo_kept hDO mo_many mo_taken mo_length hXB hXC hXF hXY hXS hXP hFA hLE, cI G hDO 500 aDO] H := hP
  replace hD : va_D A [cMO hMO (0 : Int32) mo_size hTM mo_isBoard mo_width mo_height mo_person mo_moves mo_pushes mo_floor mo_goals mo_boxes mo_newFloor mo_newGoals mo_newBoxes mo_newPerson mo_newWidth mo_kept hDO mo_many mo_taken mo_length hXB hXC hXF hXY hXS hXP hFA hLE, cI G hDO 500 aDO] := hD
  refine lv_iload_n X.1 X.2.1 dX6_letter_5 rfl (lv_at hl 1 rfl) ?_
  refine lv_if_lt (tgt := 17) X.1 X.2.1 dX6_letter_6 (by decide) (fun hc => ?_) (fun hc => ?_)
  · replace h := Eq.mp (if_pos hc) h
    refine lv_iconst (v := (-1 : Int32)) X.1 X.2.1 dX6_letter_17 (by decide) ?_
    exact g_iret X (0 : Int32) h hP hD hS dX6_letter_18
  · replace h := Eq.mp (if_neg hc) h
    refine lv_iload_n X.1 X.2.1 dX6_letter_9 rfl (lv_at hl 1 rfl) ?_
    refine lv_aload_n X.1 X.2.1 dX6_letter_10 rfl (lv_at hl 0 rfl) ?_
    refine g_get X hP 0 6 17 (v := .int mo_kept) rfl rfl inX6 (by decide) fl_X6_109 rfl dX6_letter_11 ?_
    refine lv_icmp_lt (tgt := 19) X.1 X.2.1 dX6_letter_14 (by decide) (fun hc => ?_) (fun hc => ?_)
    · replace h := Eq.mp (if_pos hc) h
      refine lv_aload_n X.1 X.2.1 dX6_letter_19 rfl (lv_at hl 0 rfl) ?_
      refine g_get X hP 0 6 18 (v := .ref hDO) rfl rfl inX6 (by decide) fl_X6_13 rfl dX6_letter_20 ?_
      refine lv_iload_n X.1 X.2.1 dX6_letter_23 rfl (lv_at hl 1 rfl) ?_
      obtain ⟨hin, h⟩ := h
      refine va_iald (D := G.1) X.1 X.2.1 X.k.1 hP 1 0 rfl rfl hin dX6_letter_24 ?_
      refine lv_iconst (v := (4 : Int32)) X.1 X.2.1 dX6_letter_25 (by decide) ?_
      refine lv_irem X.1 X.2.1 dX6_letter_26 (by decide) ?_
      refine lv_topi (fun v2_1 e_v2_1 => ?_)
      replace h := h v2_1 e_v2_1
      refine lv_istore_n (lv' := [(2, .int v2_1), (0, .ref hMO), (1, .int v1)]) X.1 X.2.1 dX6_letter_27 rfl hl (by decide) rfl (fun ls hl => ?_)
      refine lv_iload_n X.1 X.2.1 dX6_letter_28 rfl (lv_at hl 0 rfl) ?_
      refine lv_if_ne (tgt := 37) X.1 X.2.1 dX6_letter_29 (by decide) (fun hc => ?_) (fun hc => ?_)
      · replace h := Eq.mp (if_neg hc) h
        refine lv_iload_n X.1 X.2.1 dX6_letter_37 rfl (lv_at hl 0 rfl) ?_
        refine lv_iconst (v := (1 : Int32)) X.1 X.2.1 dX6_letter_38 (by decide) ?_
        refine lv_icmp_ne (tgt := 47) X.1 X.2.1 dX6_letter_39 (by decide) (fun hc => ?_) (fun hc => ?_)
        · replace h := Eq.mp (if_neg hc) h
          refine lv_iload_n X.1 X.2.1 dX6_letter_47 rfl (lv_at hl 0 rfl) ?_
          refine lv_iconst (v := (2 : Int32)) X.1 X.2.1 dX6_letter_48 (by decide) ?_
          refine lv_icmp_ne (tgt := 57) X.1 X.2.1 dX6_letter_49 (by decide) (fun hc => ?_) (fun hc => ?_)
          · replace h := Eq.mp (if_neg hc) h
            refine lv_bipush (v := (117 : Int32)) X.1 X.2.1 dX6_letter_57 (by decide) ?_
            exact s_MO_letter_59 X  (0 : Int32) v1 (117 : Int32) _ _ _ h hP hD hS (lv_sub hl [1, 2] rfl)
          · replace h := Eq.mp (if_pos hc) h
            refine lv_bipush (v := (108 : Int32)) X.1 X.2.1 dX6_letter_52 (by decide) ?_
            refine lv_goto (tgt := 59) X.1 X.2.1 dX6_letter_54 (by decide) ?_
            exact s_MO_letter_59 X  (0 : Int32) v1 (108 : Int32) _ _ _ h hP hD hS (lv_sub hl [1, 2] rfl)
        · replace h := Eq.mp (if_pos hc) h
          refine lv_bipush (v := (100 : Int32)) X.1 X.2.1 dX6_letter_42 (by decide) ?_
          refine lv_goto (tgt := 59) X.1 X.2.1 dX6_letter_44 (by decide) ?_
          exact s_MO_letter_59 X  (0 : Int32) v1 (100 : Int32) _ _ _ h hP hD hS (lv_sub hl [1, 2] rfl)
      · replace h := Eq.mp (if_pos hc) h
        refine lv_bipush (v := (114 : Int32)) X.1 X.2.1 dX6_letter_32 (by decide) ?_
        refine lv_goto (tgt := 59) X.1 X.2.1 dX6_letter_34 (by decide) ?_
        exact s_MO_letter_59 X  (0 : Int32) v1 (114 : Int32) _ _ _ h hP hD hS (lv_sub hl [1, 2] rfl)
    · replace h := Eq.mp (if_neg hc) h
      refine lv_iconst (v := (-1 : Int32)) X.1 X.2.1 dX6_letter_17 (by decide) ?_
      exact g_iret X (0 : Int32) h hP hD hS dX6_letter_18
abbrev rm_MO_reachOf : Room := { frames := 2, cells := 0, slots := 0, locals := 46 }
set_option maxHeartbeats 4000000 in
set_option maxRecDepth 100000 in
theorem s_MO_reachOf_67 {p : Program} {l : Launch} {e : Env} {s : State} {m : MethodId} {args : Array Value} {below : List Frame} {meth : Method} {c : Code} {G : gEnv} {A : Nat → Prop} {hMO : Nat} {hTM : Nat} {hDO : Nat} {hXB : Nat} {hXC : Nat} {hXF : Nat} {hXY : Nat} {hXS : Nat} {hXP : Nat} {hFA : Nat} {hLE : Nat} {mo_thrown : Int32} {mo_size : Int32} {mo_isBoard : Int32} {mo_person : Int32} {mo_moves : Int32} {mo_pushes : Int32} {mo_goals : Int64} {mo_boxes : Int64} {mo_newFloor : Int64} {mo_newGoals : Int64} {mo_newBoxes : Int64} {mo_newPerson : Int32} {mo_newWidth : Int32} {mo_kept : Int32} {mo_many : Int32} {mo_taken : Int32} {mo_length : Int32} {mo_width : Int32} {mo_height : Int32} {mo_floor : Int64} {k23 : Int64 → Int64 → Int64 → Int32 → Prop} {post : Int64 → Prop} (X : gX p m meth c cX6_reachOf 10 RX6 (some .long) s args G A) (hk23 : ∀ (v2' : Int64) (v4' : Int64) (v6' : Int64) (v8' : Int32) (H : Heap) (locs : List Loc) (ls : Array Slot), k23 v2' v4' v6' v8' → va_P G.1 gCl [cMO hMO mo_thrown mo_size hTM mo_isBoard mo_width mo_height mo_person mo_moves mo_pushes mo_floor mo_goals mo_boxes mo_newFloor mo_newGoals mo_newBoxes mo_newPerson mo_newWidth mo_kept hDO mo_many mo_taken mo_length hXB hXC hXF hXY hXS hXP hFA hLE] H → va_D A [cMO hMO mo_thrown mo_size hTM mo_isBoard mo_width mo_height mo_person mo_moves mo_pushes mo_floor mo_goals mo_boxes mo_newFloor mo_newGoals mo_newBoxes mo_newPerson mo_newWidth mo_kept hDO mo_many mo_taken mo_length hXB hXC hXF hXY hXS hXP hFA hLE] → va_S A s.heap H locs → lv_has ls 10 [(0, .ref hMO), (2, .long v2'), (4, .long v4'), (6, .long v6'), (8, .int v8')] → W p l e rm_MO_reachOf s m args below meth c H locs 0 0 (MQ below (gQl G (fun (r : Int64) (u : Unit) => post r ) (fun (u : Unit) => [cMO hMO mo_thrown mo_size hTM mo_isBoard mo_width mo_height mo_person mo_moves mo_pushes mo_floor mo_goals mo_boxes mo_newFloor mo_newGoals mo_newBoxes mo_newPerson mo_newWidth mo_kept hDO mo_many mo_taken mo_length hXB hXC hXF hXY hXS hXP hFA hLE]) A) args s 0 0 A) (F0 m 23 ls [])) : ∀ (n : Nat) (v2 : Int64) (v4 : Int64) (v6 : Int64) (v8 : Int32) (v9 : Int32) (H : Heap) (locs : List Loc) (ls : Array Slot), MO_reachOf_67 mo_width mo_height mo_floor k23 post n v2 v4 v6 v8 v9 → va_P G.1 gCl [cMO hMO mo_thrown mo_size hTM mo_isBoard mo_width mo_height mo_person mo_moves mo_pushes mo_floor mo_goals mo_boxes mo_newFloor mo_newGoals mo_newBoxes mo_newPerson mo_newWidth mo_kept hDO mo_many mo_taken mo_length hXB hXC hXF hXY hXS hXP hFA hLE] H → va_D A [cMO hMO mo_thrown mo_size hTM mo_isBoard mo_width mo_height mo_person mo_moves mo_pushes mo_floor mo_goals mo_boxes mo_newFloor mo_newGoals mo_newBoxes mo_newPerson mo_newWidth mo_kept hDO mo_many mo_taken mo_length hXB hXC hXF hXY hXS hXP hFA hLE] → va_S A s.heap H locs → lv_has ls 10 [(0, .ref hMO), (2, .long v2), (4, .long v4), (6, .long v6), (8, .int v8), (9, .int v9)] → W p l e rm_MO_reachOf s m args below meth c H locs 0 0 (MQ below (gQl G (fun (r : Int64) (u : Unit) => post r ) (fun (u : Unit) => [cMO hMO mo_thrown mo_size hTM mo_isBoard mo_width mo_height mo_person mo_moves mo_pushes mo_floor mo_goals mo_boxes mo_newFloor mo_newGoals mo_newBoxes mo_newPerson mo_newWidth mo_kept hDO mo_many mo_taken mo_length hXB hXC hXF hXY hXS hXP hFA hLE]) A) args s 0 0 A) (F0 m 67 ls []) := by
  intro n
  induction n with
  | zero => intro v2 v4 v6 v8 v9 H locs ls h _ _ _ _; exact h.elim
  | succ n ih =>
    intro v2 v4 v6 v8 v9 H locs ls h hP hD hS hl
    unfold MO_reachOf_67 at h
    refine lv_iload X.1 X.2.1 dX6_reachOf_67 (lv_at hl 5 rfl) ?_
    refine lv_iconst (v := (4 : Int32)) X.1 X.2.1 dX6_reachOf_69 (by decide) ?_
    refine lv_icmp_ge (tgt := 104) X.1 X.2.1 dX6_reachOf_70 (by decide) (fun hc => ?_) (fun hc => ?_)
    · replace h := Eq.mp (if_pos hc) h
      refine lv_iinc (v := (v8 + (1 : Int32))) (lv' := [(8, .int (v8 + (1 : Int32))), (0, .ref hMO), (2, .long v2), (4, .long v4), (6, .long v6), (9, .int v9)]) X.1 X.2.1 dX6_reachOf_104 hl (k := 4) rfl rfl (by decide) rfl (fun ls hl => ?_)
      refine lv_goto (tgt := 23) X.1 X.2.1 dX6_reachOf_107 (by decide) ?_
      exact hk23 v2 v4 v6 (v8 + (1 : Int32)) _ _ _ h hP hD hS (lv_sub hl [1, 2, 3, 4, 0] rfl)
    · replace h := Eq.mp (if_neg hc) h
      refine lv_lload X.1 X.2.1 dX6_reachOf_73 (lv_at hl 2 rfl) ?_
      refine lv_aload_n X.1 X.2.1 dX6_reachOf_75 rfl (lv_at hl 0 rfl) ?_
      refine lv_iload X.1 X.2.1 dX6_reachOf_76 (lv_at hl 4 rfl) ?_
      refine lv_iload X.1 X.2.1 dX6_reachOf_78 (lv_at hl 5 rfl) ?_
      refine g_ci (wr := []) X [0] [] (g_rV (As := [.int v8, .int v9]) (rest := [.long v4]) X (c_MO_beside l G hMO hTM hDO hXB hXC hXF hXY hXS hXP hFA hLE mo_thrown mo_size mo_isBoard mo_width mo_height mo_person mo_moves mo_pushes mo_floor mo_goals mo_boxes mo_newFloor mo_newGoals mo_newBoxes mo_newPerson mo_newWidth mo_kept mo_many mo_taken mo_length v8 v9 _ h _) lk_X6_112 rfl rfl ⟨Nat.le_of_ble_eq_true rfl, Nat.le_of_ble_eq_true rfl⟩ hP hD hS [0] rfl rfl 0 6 rfl rfl rfl hl.1 rfl (Nat.le_of_ble_eq_true rfl) dX6_reachOf_80 ⟨Nat.le_of_ble_eq_true rfl, Nat.le_of_ble_eq_true rfl⟩) hP hD hS rfl rfl rfl (by decide) (fun r_1 u H locs h hP hD hS => ?_)
      try dsimp only at h
      replace hP := hP.sub (ws' := [cMO hMO mo_thrown mo_size hTM mo_isBoard mo_width mo_height mo_person mo_moves mo_pushes mo_floor mo_goals mo_boxes mo_newFloor mo_newGoals mo_newBoxes mo_newPerson mo_newWidth mo_kept hDO mo_many mo_taken mo_length hXB hXC hXF hXY hXS hXP hFA hLE]) [0] rfl
      replace hD := hD.sub (ws' := [cMO hMO mo_thrown mo_size hTM mo_isBoard mo_width mo_height mo_person mo_moves mo_pushes mo_floor mo_goals mo_boxes mo_newFloor mo_newGoals mo_newBoxes mo_newPerson mo_newWidth mo_kept hDO mo_many mo_taken mo_length hXB hXC hXF hXY hXS hXP hFA hLE]) [0] rfl rfl
      refine g_ci (wr := [cMO hMO mo_thrown mo_size hTM mo_isBoard mo_width mo_height mo_person mo_moves mo_pushes mo_floor mo_goals mo_boxes mo_newFloor mo_newGoals mo_newBoxes mo_newPerson mo_newWidth mo_kept hDO mo_many mo_taken mo_length hXB hXC hXF hXY hXS hXP hFA hLE]) X [] [0] (g_rS (As := [.long v4, .int r_1]) (rest := []) X (c_MO_has l G v4 r_1 _ h _) lk_X6_90 rfl rfl ⟨Nat.le_of_ble_eq_true rfl, Nat.le_of_ble_eq_true rfl⟩ hP hD hS [] rfl rfl rfl hl.1 rfl (Nat.le_of_ble_eq_true rfl) dX6_reachOf_83 ⟨Nat.le_of_ble_eq_true rfl, Nat.le_of_ble_eq_true rfl⟩) hP hD hS rfl rfl rfl (by decide) (fun r_2 u H locs h hP hD hS => ?_)
      try dsimp only at h
      replace hP := hP.sub (ws' := [cMO hMO mo_thrown mo_size hTM mo_isBoard mo_width mo_height mo_person mo_moves mo_pushes mo_floor mo_goals mo_boxes mo_newFloor mo_newGoals mo_newBoxes mo_newPerson mo_newWidth mo_kept hDO mo_many mo_taken mo_length hXB hXC hXF hXY hXS hXP hFA hLE]) [0] rfl
      replace hD := hD.sub (ws' := [cMO hMO mo_thrown mo_size hTM mo_isBoard mo_width mo_height mo_person mo_moves mo_pushes mo_floor mo_goals mo_boxes mo_newFloor mo_newGoals mo_newBoxes mo_newPerson mo_newWidth mo_kept hDO mo_many mo_taken mo_length hXB hXC hXF hXY hXS hXP hFA hLE]) [0] rfl rfl
      refine lv_if_eq (tgt := 98) X.1 X.2.1 dX6_reachOf_86 (by decide) (fun hc => ?_) (fun hc => ?_)
      · replace h := Eq.mp (if_pos hc) h
        refine lv_iinc (v := (v9 + (1 : Int32))) (lv' := [(9, .int (v9 + (1 : Int32))), (0, .ref hMO), (2, .long v2), (4, .long v4), (6, .long v6), (8, .int v8)]) X.1 X.2.1 dX6_reachOf_98 hl (k := 5) rfl rfl (by decide) rfl (fun ls hl => ?_)
        refine lv_goto (tgt := 67) X.1 X.2.1 dX6_reachOf_101 (by decide) ?_
        exact ih v2 v4 v6 v8 (v9 + (1 : Int32)) _ _ _ h hP hD hS (lv_sub hl [1, 2, 3, 4, 5, 0] rfl)
      · replace h := Eq.mp (if_neg hc) h
        refine lv_lload X.1 X.2.1 dX6_reachOf_89 (lv_at hl 2 rfl) ?_
        refine lv_lconst (v := (1 : Int64)) X.1 X.2.1 dX6_reachOf_91 (by decide) ?_
        refine lv_iload X.1 X.2.1 dX6_reachOf_92 (lv_at hl 4 rfl) ?_
        refine lv_lshl X.1 X.2.1 dX6_reachOf_94 rfl ?_
        refine lv_lor X.1 X.2.1 dX6_reachOf_95 ?_
        refine lv_topl (fun v4_3 e_v4_3 => ?_)
        replace h := h v4_3 e_v4_3
        refine lv_lstore (lv' := [(4, .long v4_3), (0, .ref hMO), (2, .long v2), (6, .long v6), (8, .int v8), (9, .int v9)]) X.1 X.2.1 dX6_reachOf_96 hl (by decide) rfl (fun ls hl => ?_)
        refine lv_iinc (v := (v9 + (1 : Int32))) (lv' := [(9, .int (v9 + (1 : Int32))), (4, .long v4_3), (0, .ref hMO), (2, .long v2), (6, .long v6), (8, .int v8)]) X.1 X.2.1 dX6_reachOf_98 hl (k := 5) rfl rfl (by decide) rfl (fun ls hl => ?_)
        refine lv_goto (tgt := 67) X.1 X.2.1 dX6_reachOf_101 (by decide) ?_
        exact ih v2 v4_3 v6 v8 (v9 + (1 : Int32)) _ _ _ h hP hD hS (lv_sub hl [2, 3, 1, 4, 5, 0] rfl)
set_option maxHeartbeats 4000000 in
set_option maxRecDepth 100000 in
theorem s_MO_reachOf_23 {p : Program} {l : Launch} {e : Env} {s : State} {m : MethodId} {args : Array Value} {below : List Frame} {meth : Method} {c : Code} {G : gEnv} {A : Nat → Prop} {hMO : Nat} {hTM : Nat} {hDO : Nat} {hXB : Nat} {hXC : Nat} {hXF : Nat} {hXY : Nat} {hXS : Nat} {hXP : Nat} {hFA : Nat} {hLE : Nat} {mo_thrown : Int32} {mo_size : Int32} {mo_isBoard : Int32} {mo_person : Int32} {mo_moves : Int32} {mo_pushes : Int32} {mo_goals : Int64} {mo_boxes : Int64} {mo_newFloor : Int64} {mo_newGoals : Int64} {mo_newBoxes : Int64} {mo_newPerson : Int32} {mo_newWidth : Int32} {mo_kept : Int32} {mo_many : Int32} {mo_taken : Int32} {mo_length : Int32} {mo_width : Int32} {mo_height : Int32} {mo_floor : Int64} {k8 : Int64 → Int64 → Int64 → Prop} {post : Int64 → Prop} (X : gX p m meth c cX6_reachOf 10 RX6 (some .long) s args G A) (hk8 : ∀ (v2' : Int64) (v4' : Int64) (v6' : Int64) (H : Heap) (locs : List Loc) (ls : Array Slot), k8 v2' v4' v6' → va_P G.1 gCl [cMO hMO mo_thrown mo_size hTM mo_isBoard mo_width mo_height mo_person mo_moves mo_pushes mo_floor mo_goals mo_boxes mo_newFloor mo_newGoals mo_newBoxes mo_newPerson mo_newWidth mo_kept hDO mo_many mo_taken mo_length hXB hXC hXF hXY hXS hXP hFA hLE] H → va_D A [cMO hMO mo_thrown mo_size hTM mo_isBoard mo_width mo_height mo_person mo_moves mo_pushes mo_floor mo_goals mo_boxes mo_newFloor mo_newGoals mo_newBoxes mo_newPerson mo_newWidth mo_kept hDO mo_many mo_taken mo_length hXB hXC hXF hXY hXS hXP hFA hLE] → va_S A s.heap H locs → lv_has ls 10 [(0, .ref hMO), (2, .long v2'), (4, .long v4'), (6, .long v6')] → W p l e rm_MO_reachOf s m args below meth c H locs 0 0 (MQ below (gQl G (fun (r : Int64) (u : Unit) => post r ) (fun (u : Unit) => [cMO hMO mo_thrown mo_size hTM mo_isBoard mo_width mo_height mo_person mo_moves mo_pushes mo_floor mo_goals mo_boxes mo_newFloor mo_newGoals mo_newBoxes mo_newPerson mo_newWidth mo_kept hDO mo_many mo_taken mo_length hXB hXC hXF hXY hXS hXP hFA hLE]) A) args s 0 0 A) (F0 m 8 ls [])) : ∀ (n : Nat) (v2 : Int64) (v4 : Int64) (v6 : Int64) (v8 : Int32) (H : Heap) (locs : List Loc) (ls : Array Slot), MO_reachOf_23 mo_width mo_height mo_floor k8 post n v2 v4 v6 v8 → va_P G.1 gCl [cMO hMO mo_thrown mo_size hTM mo_isBoard mo_width mo_height mo_person mo_moves mo_pushes mo_floor mo_goals mo_boxes mo_newFloor mo_newGoals mo_newBoxes mo_newPerson mo_newWidth mo_kept hDO mo_many mo_taken mo_length hXB hXC hXF hXY hXS hXP hFA hLE] H → va_D A [cMO hMO mo_thrown mo_size hTM mo_isBoard mo_width mo_height mo_person mo_moves mo_pushes mo_floor mo_goals mo_boxes mo_newFloor mo_newGoals mo_newBoxes mo_newPerson mo_newWidth mo_kept hDO mo_many mo_taken mo_length hXB hXC hXF hXY hXS hXP hFA hLE] → va_S A s.heap H locs → lv_has ls 10 [(0, .ref hMO), (2, .long v2), (4, .long v4), (6, .long v6), (8, .int v8)] → W p l e rm_MO_reachOf s m args below meth c H locs 0 0 (MQ below (gQl G (fun (r : Int64) (u : Unit) => post r ) (fun (u : Unit) => [cMO hMO mo_thrown mo_size hTM mo_isBoard mo_width mo_height mo_person mo_moves mo_pushes mo_floor mo_goals mo_boxes mo_newFloor mo_newGoals mo_newBoxes mo_newPerson mo_newWidth mo_kept hDO mo_many mo_taken mo_length hXB hXC hXF hXY hXS hXP hFA hLE]) A) args s 0 0 A) (F0 m 23 ls []) := by
  intro n
  induction n with
  | zero => intro v2 v4 v6 v8 H locs ls h _ _ _ _; exact h.elim
  | succ n ih =>
    intro v2 v4 v6 v8 H locs ls h hP hD hS hl
    unfold MO_reachOf_23 at h
    refine lv_iload X.1 X.2.1 dX6_reachOf_23 (lv_at hl 4 rfl) ?_
    refine lv_bipush (v := (64 : Int32)) X.1 X.2.1 dX6_reachOf_25 (by decide) ?_
    refine lv_icmp_ge (tgt := 110) X.1 X.2.1 dX6_reachOf_27 (by decide) (fun hc => ?_) (fun hc => ?_)
    · replace h := Eq.mp (if_pos hc) h
      refine lv_goto (tgt := 8) X.1 X.2.1 dX6_reachOf_110 (by decide) ?_
      exact hk8 v2 v4 v6 _ _ _ h hP hD hS (lv_sub hl [0, 1, 2, 3] rfl)
    · replace h := Eq.mp (if_neg hc) h
      refine lv_aload_n X.1 X.2.1 dX6_reachOf_30 rfl (lv_at hl 0 rfl) ?_
      refine g_get X hP 0 6 9 (v := .long mo_floor) rfl rfl inX6 (by decide) fl_X6_87 rfl dX6_reachOf_31 ?_
      refine lv_iload X.1 X.2.1 dX6_reachOf_34 (lv_at hl 4 rfl) ?_
      refine g_ci (wr := [cMO hMO mo_thrown mo_size hTM mo_isBoard mo_width mo_height mo_person mo_moves mo_pushes mo_floor mo_goals mo_boxes mo_newFloor mo_newGoals mo_newBoxes mo_newPerson mo_newWidth mo_kept hDO mo_many mo_taken mo_length hXB hXC hXF hXY hXS hXP hFA hLE]) X [] [0] (g_rS (As := [.long mo_floor, .int v8]) (rest := []) X (c_MO_has l G mo_floor v8 _ h _) lk_X6_90 rfl rfl ⟨Nat.le_of_ble_eq_true rfl, Nat.le_of_ble_eq_true rfl⟩ hP hD hS [] rfl rfl rfl hl.1 rfl (Nat.le_of_ble_eq_true rfl) dX6_reachOf_36 ⟨Nat.le_of_ble_eq_true rfl, Nat.le_of_ble_eq_true rfl⟩) hP hD hS rfl rfl rfl (by decide) (fun r_1 u H locs h hP hD hS => ?_)
      try dsimp only at h
      replace hP := hP.sub (ws' := [cMO hMO mo_thrown mo_size hTM mo_isBoard mo_width mo_height mo_person mo_moves mo_pushes mo_floor mo_goals mo_boxes mo_newFloor mo_newGoals mo_newBoxes mo_newPerson mo_newWidth mo_kept hDO mo_many mo_taken mo_length hXB hXC hXF hXY hXS hXP hFA hLE]) [0] rfl
      replace hD := hD.sub (ws' := [cMO hMO mo_thrown mo_size hTM mo_isBoard mo_width mo_height mo_person mo_moves mo_pushes mo_floor mo_goals mo_boxes mo_newFloor mo_newGoals mo_newBoxes mo_newPerson mo_newWidth mo_kept hDO mo_many mo_taken mo_length hXB hXC hXF hXY hXS hXP hFA hLE]) [0] rfl rfl
      refine lv_if_eq (tgt := 104) X.1 X.2.1 dX6_reachOf_39 (by decide) (fun hc => ?_) (fun hc => ?_)
      · replace h := Eq.mp (if_pos hc) h
        refine lv_iinc (v := (v8 + (1 : Int32))) (lv' := [(8, .int (v8 + (1 : Int32))), (0, .ref hMO), (2, .long v2), (4, .long v4), (6, .long v6)]) X.1 X.2.1 dX6_reachOf_104 hl (k := 4) rfl rfl (by decide) rfl (fun ls hl => ?_)
        refine lv_goto (tgt := 23) X.1 X.2.1 dX6_reachOf_107 (by decide) ?_
        exact ih v2 v4 v6 (v8 + (1 : Int32)) _ _ _ h hP hD hS (lv_sub hl [1, 2, 3, 4, 0] rfl)
      · replace h := Eq.mp (if_neg hc) h
        refine lv_lload_n X.1 X.2.1 dX6_reachOf_42 rfl (lv_at hl 1 rfl) ?_
        refine lv_iload X.1 X.2.1 dX6_reachOf_43 (lv_at hl 4 rfl) ?_
        refine g_ci (wr := [cMO hMO mo_thrown mo_size hTM mo_isBoard mo_width mo_height mo_person mo_moves mo_pushes mo_floor mo_goals mo_boxes mo_newFloor mo_newGoals mo_newBoxes mo_newPerson mo_newWidth mo_kept hDO mo_many mo_taken mo_length hXB hXC hXF hXY hXS hXP hFA hLE]) X [] [0] (g_rS (As := [.long v2, .int v8]) (rest := []) X (c_MO_has l G v2 v8 _ h _) lk_X6_90 rfl rfl ⟨Nat.le_of_ble_eq_true rfl, Nat.le_of_ble_eq_true rfl⟩ hP hD hS [] rfl rfl rfl hl.1 rfl (Nat.le_of_ble_eq_true rfl) dX6_reachOf_45 ⟨Nat.le_of_ble_eq_true rfl, Nat.le_of_ble_eq_true rfl⟩) hP hD hS rfl rfl rfl (by decide) (fun r_2 u H locs h hP hD hS => ?_)
        try dsimp only at h
        replace hP := hP.sub (ws' := [cMO hMO mo_thrown mo_size hTM mo_isBoard mo_width mo_height mo_person mo_moves mo_pushes mo_floor mo_goals mo_boxes mo_newFloor mo_newGoals mo_newBoxes mo_newPerson mo_newWidth mo_kept hDO mo_many mo_taken mo_length hXB hXC hXF hXY hXS hXP hFA hLE]) [0] rfl
        replace hD := hD.sub (ws' := [cMO hMO mo_thrown mo_size hTM mo_isBoard mo_width mo_height mo_person mo_moves mo_pushes mo_floor mo_goals mo_boxes mo_newFloor mo_newGoals mo_newBoxes mo_newPerson mo_newWidth mo_kept hDO mo_many mo_taken mo_length hXB hXC hXF hXY hXS hXP hFA hLE]) [0] rfl rfl
        refine lv_if_ne (tgt := 104) X.1 X.2.1 dX6_reachOf_48 (by decide) (fun hc => ?_) (fun hc => ?_)
        · replace h := Eq.mp (if_neg hc) h
          refine lv_iinc (v := (v8 + (1 : Int32))) (lv' := [(8, .int (v8 + (1 : Int32))), (0, .ref hMO), (2, .long v2), (4, .long v4), (6, .long v6)]) X.1 X.2.1 dX6_reachOf_104 hl (k := 4) rfl rfl (by decide) rfl (fun ls hl => ?_)
          refine lv_goto (tgt := 23) X.1 X.2.1 dX6_reachOf_107 (by decide) ?_
          exact ih v2 v4 v6 (v8 + (1 : Int32)) _ _ _ h hP hD hS (lv_sub hl [1, 2, 3, 4, 0] rfl)
        · replace h := Eq.mp (if_pos hc) h
          refine lv_lload X.1 X.2.1 dX6_reachOf_51 (lv_at hl 2 rfl) ?_
          refine lv_iload X.1 X.2.1 dX6_reachOf_53 (lv_at hl 4 rfl) ?_
          refine g_ci (wr := [cMO hMO mo_thrown mo_size hTM mo_isBoard mo_width mo_height mo_person mo_moves mo_pushes mo_floor mo_goals mo_boxes mo_newFloor mo_newGoals mo_newBoxes mo_newPerson mo_newWidth mo_kept hDO mo_many mo_taken mo_length hXB hXC hXF hXY hXS hXP hFA hLE]) X [] [0] (g_rS (As := [.long v4, .int v8]) (rest := []) X (c_MO_has l G v4 v8 _ h _) lk_X6_90 rfl rfl ⟨Nat.le_of_ble_eq_true rfl, Nat.le_of_ble_eq_true rfl⟩ hP hD hS [] rfl rfl rfl hl.1 rfl (Nat.le_of_ble_eq_true rfl) dX6_reachOf_55 ⟨Nat.le_of_ble_eq_true rfl, Nat.le_of_ble_eq_true rfl⟩) hP hD hS rfl rfl rfl (by decide) (fun r_3 u H locs h hP hD hS => ?_)
          try dsimp only at h
          replace hP := hP.sub (ws' := [cMO hMO mo_thrown mo_size hTM mo_isBoard mo_width mo_height mo_person mo_moves mo_pushes mo_floor mo_goals mo_boxes mo_newFloor mo_newGoals mo_newBoxes mo_newPerson mo_newWidth mo_kept hDO mo_many mo_taken mo_length hXB hXC hXF hXY hXS hXP hFA hLE]) [0] rfl
          replace hD := hD.sub (ws' := [cMO hMO mo_thrown mo_size hTM mo_isBoard mo_width mo_height mo_person mo_moves mo_pushes mo_floor mo_goals mo_boxes mo_newFloor mo_newGoals mo_newBoxes mo_newPerson mo_newWidth mo_kept hDO mo_many mo_taken mo_length hXB hXC hXF hXY hXS hXP hFA hLE]) [0] rfl rfl
          refine lv_if_eq (tgt := 64) X.1 X.2.1 dX6_reachOf_58 (by decide) (fun hc => ?_) (fun hc => ?_)
          · replace h := Eq.mp (if_pos hc) h
            refine lv_iconst (v := (0 : Int32)) X.1 X.2.1 dX6_reachOf_64 (by decide) ?_
            refine lv_istore (lv' := [(9, .int (0 : Int32)), (0, .ref hMO), (2, .long v2), (4, .long v4), (6, .long v6), (8, .int v8)]) X.1 X.2.1 dX6_reachOf_65 hl (by decide) rfl (fun ls hl => ?_)
            obtain ⟨n', h⟩ := h
            exact s_MO_reachOf_67 X (fun v2' v4' v6' v8' H' locs' ls' h' hP' hD' hS' hl' => ih v2' v4' v6' v8' H' locs' ls' h' hP' hD' hS' hl') n' v2 v4 v6 v8 (0 : Int32) _ _ _ h hP hD hS (lv_sub hl [1, 2, 3, 4, 5, 0] rfl)
          · replace h := Eq.mp (if_neg hc) h
            refine lv_goto (tgt := 104) X.1 X.2.1 dX6_reachOf_61 (by decide) ?_
            refine lv_iinc (v := (v8 + (1 : Int32))) (lv' := [(8, .int (v8 + (1 : Int32))), (0, .ref hMO), (2, .long v2), (4, .long v4), (6, .long v6)]) X.1 X.2.1 dX6_reachOf_104 hl (k := 4) rfl rfl (by decide) rfl (fun ls hl => ?_)
            refine lv_goto (tgt := 23) X.1 X.2.1 dX6_reachOf_107 (by decide) ?_
            exact ih v2 v4 v6 (v8 + (1 : Int32)) _ _ _ h hP hD hS (lv_sub hl [1, 2, 3, 4, 0] rfl)
set_option maxHeartbeats 4000000 in
set_option maxRecDepth 100000 in
theorem s_MO_reachOf_8 {p : Program} {l : Launch} {e : Env} {s : State} {m : MethodId} {args : Array Value} {below : List Frame} {meth : Method} {c : Code} {G : gEnv} {A : Nat → Prop} {hMO : Nat} {hTM : Nat} {hDO : Nat} {hXB : Nat} {hXC : Nat} {hXF : Nat} {hXY : Nat} {hXS : Nat} {hXP : Nat} {hFA : Nat} {hLE : Nat} {mo_thrown : Int32} {mo_size : Int32} {mo_isBoard : Int32} {mo_person : Int32} {mo_moves : Int32} {mo_pushes : Int32} {mo_goals : Int64} {mo_boxes : Int64} {mo_newFloor : Int64} {mo_newGoals : Int64} {mo_newBoxes : Int64} {mo_newPerson : Int32} {mo_newWidth : Int32} {mo_kept : Int32} {mo_many : Int32} {mo_taken : Int32} {mo_length : Int32} {mo_width : Int32} {mo_height : Int32} {mo_floor : Int64} {post : Int64 → Prop} (X : gX p m meth c cX6_reachOf 10 RX6 (some .long) s args G A)  : ∀ (n : Nat) (v2 : Int64) (v4 : Int64) (v6 : Int64) (H : Heap) (locs : List Loc) (ls : Array Slot), MO_reachOf_8 mo_width mo_height mo_floor post n v2 v4 v6 → va_P G.1 gCl [cMO hMO mo_thrown mo_size hTM mo_isBoard mo_width mo_height mo_person mo_moves mo_pushes mo_floor mo_goals mo_boxes mo_newFloor mo_newGoals mo_newBoxes mo_newPerson mo_newWidth mo_kept hDO mo_many mo_taken mo_length hXB hXC hXF hXY hXS hXP hFA hLE] H → va_D A [cMO hMO mo_thrown mo_size hTM mo_isBoard mo_width mo_height mo_person mo_moves mo_pushes mo_floor mo_goals mo_boxes mo_newFloor mo_newGoals mo_newBoxes mo_newPerson mo_newWidth mo_kept hDO mo_many mo_taken mo_length hXB hXC hXF hXY hXS hXP hFA hLE] → va_S A s.heap H locs → lv_has ls 10 [(0, .ref hMO), (2, .long v2), (4, .long v4), (6, .long v6)] → W p l e rm_MO_reachOf s m args below meth c H locs 0 0 (MQ below (gQl G (fun (r : Int64) (u : Unit) => post r ) (fun (u : Unit) => [cMO hMO mo_thrown mo_size hTM mo_isBoard mo_width mo_height mo_person mo_moves mo_pushes mo_floor mo_goals mo_boxes mo_newFloor mo_newGoals mo_newBoxes mo_newPerson mo_newWidth mo_kept hDO mo_many mo_taken mo_length hXB hXC hXF hXY hXS hXP hFA hLE]) A) args s 0 0 A) (F0 m 8 ls []) := by
  intro n
  induction n with
  | zero => intro v2 v4 v6 H locs ls h _ _ _ _; exact h.elim
  | succ n ih =>
    intro v2 v4 v6 H locs ls h hP hD hS hl
    unfold MO_reachOf_8 at h
    refine lv_lload X.1 X.2.1 dX6_reachOf_8 (lv_at hl 2 rfl) ?_
    refine lv_lload X.1 X.2.1 dX6_reachOf_10 (lv_at hl 3 rfl) ?_
    refine g_lcmp_eq (tgt := 113) X dX6_reachOf_12 dX6_reachOf_13 (by decide) (fun hc => ?_) (fun hc => ?_)
    · replace h := Eq.mp (if_pos hc) h
      refine lv_lload X.1 X.2.1 dX6_reachOf_113 (lv_at hl 2 rfl) ?_
      exact g_lret X () h hP hD hS dX6_reachOf_115
    · replace h := Eq.mp (if_neg hc) h
      refine lv_lload X.1 X.2.1 dX6_reachOf_16 (lv_at hl 2 rfl) ?_
      refine lv_lstore (lv' := [(6, .long v4), (0, .ref hMO), (2, .long v2), (4, .long v4)]) X.1 X.2.1 dX6_reachOf_18 hl (by decide) rfl (fun ls hl => ?_)
      refine lv_iconst (v := (0 : Int32)) X.1 X.2.1 dX6_reachOf_20 (by decide) ?_
      refine lv_istore (lv' := [(8, .int (0 : Int32)), (6, .long v4), (0, .ref hMO), (2, .long v2), (4, .long v4)]) X.1 X.2.1 dX6_reachOf_21 hl (by decide) rfl (fun ls hl => ?_)
      obtain ⟨n', h⟩ := h
      exact s_MO_reachOf_23 X (fun v2' v4' v6' H' locs' ls' h' hP' hD' hS' hl' => ih v2' v4' v6' H' locs' ls' h' hP' hD' hS' hl') n' v2 v4 v4 (0 : Int32) _ _ _ h hP hD hS (lv_sub hl [2, 3, 4, 1, 0] rfl)
set_option maxHeartbeats 4000000 in
set_option maxRecDepth 100000 in
theorem c_MO_reachOf (l : Launch) (G : gEnv) (hMO : Nat) (hTM : Nat) (hDO : Nat) (hXB : Nat) (hXC : Nat) (hXF : Nat) (hXY : Nat) (hXS : Nat) (hXP : Nat) (hFA : Nat) (hLE : Nat) (mo_thrown : Int32) (mo_size : Int32) (mo_isBoard : Int32) (mo_width : Int32) (mo_height : Int32) (mo_person : Int32) (mo_moves : Int32) (mo_pushes : Int32) (mo_floor : Int64) (mo_goals : Int64) (mo_boxes : Int64) (mo_newFloor : Int64) (mo_newGoals : Int64) (mo_newBoxes : Int64) (mo_newPerson : Int32) (mo_newWidth : Int32) (mo_kept : Int32) (mo_many : Int32) (mo_taken : Int32) (mo_length : Int32) (v1 : Int32) (v2 : Int64) (post : Int64 → Prop) (h : MO_reachOf mo_width mo_height mo_floor v1 v2 post) (sz : Nat) : Met l yX6_reachOf (Cond.code yX6_reachOf cX6_reachOf 10 (some .long) :: wAll) (rm_MO_reachOf) (gPc G [.ref hMO, .int v1, .long v2] [cMO hMO mo_thrown mo_size hTM mo_isBoard mo_width mo_height mo_person mo_moves mo_pushes mo_floor mo_goals mo_boxes mo_newFloor mo_newGoals mo_newBoxes mo_newPerson mo_newWidth mo_kept hDO mo_many mo_taken mo_length hXB hXC hXF hXY hXS hXP hFA hLE] sz) (gQl G (fun (r : Int64) (u : Unit) => post r ) (fun (u : Unit) => [cMO hMO mo_thrown mo_size hTM mo_isBoard mo_width mo_height mo_person mo_moves mo_pushes mo_floor mo_goals mo_boxes mo_newFloor mo_newGoals mo_newBoxes mo_newPerson mo_newWidth mo_kept hDO mo_many mo_taken mo_length hXB hXC hXF hXY hXS hXP hFA hLE]) (va_A [cMO hMO mo_thrown mo_size hTM mo_isBoard mo_width mo_height mo_person mo_moves mo_pushes mo_floor mo_goals mo_boxes mo_newFloor mo_newGoals mo_newBoxes mo_newPerson mo_newWidth mo_kept hDO mo_many mo_taken mo_length hXB hXC hXF hXY hXS hXP hFA hLE] sz)) 0 0 (va_A [cMO hMO mo_thrown mo_size hTM mo_isBoard mo_width mo_height mo_person mo_moves mo_pushes mo_floor mo_goals mo_boxes mo_newFloor mo_newGoals mo_newBoxes mo_newPerson mo_newWidth mo_kept hDO mo_many mo_taken mo_length hXB hXC hXF hXY hXS hXP hFA hLE] sz) := by
  refine Met.ofW (cc := cX6_reachOf) (maxL := 10) (ret := (some .long)) (by decide) rfl ?_
  intro p e s m args below meth c s₁ B hml hv
  obtain ⟨rfl, hsz, hP, hK, hD0⟩ := hv
  subst hsz
  have X := gX.ofB (ws := [cMO hMO mo_thrown mo_size hTM mo_isBoard mo_width mo_height mo_person mo_moves mo_pushes mo_floor mo_goals mo_boxes mo_newFloor mo_newGoals mo_newBoxes mo_newPerson mo_newWidth mo_kept hDO mo_many mo_taken mo_length hXB hXC hXF hXY hXS hXP hFA hLE]) B hml hK hD0
  have hD := hD0.self (sz := s.heap.size)
  generalize hAe : va_A [cMO hMO mo_thrown mo_size hTM mo_isBoard mo_width mo_height mo_person mo_moves mo_pushes mo_floor mo_goals mo_boxes mo_newFloor mo_newGoals mo_newBoxes mo_newPerson mo_newWidth mo_kept hDO mo_many mo_taken mo_length hXB hXC hXF hXY hXS hXP hFA hLE] s.heap.size = A at X hD ⊢
  have hS : va_S A s.heap s.heap [] := va_S.rf
  have hl := lv_entry ([.ref hMO, .int v1, .long v2]) (n := 10) (Nat.le_of_ble_eq_true rfl)
  rw [lg_entry_eq]
  generalize (lg_sl ([.ref hMO, .int v1, .long v2]) ++ List.replicate (10 - (lg_sl ([.ref hMO, .int v1, .long v2])).length) Slot.unset).toArray = ls at hl ⊢
  have hl : lv_has ls 10 [(0, .ref hMO), (1, .int v1), (2, .long v2)] := hl
  dsimp only [headSpec]
  unfold MO_reachOf at h
  refine lv_lconst (v := (1 : Int64)) X.1 X.2.1 dX6_reachOf_0 (by decide) ?_
  refine lv_iload_n X.1 X.2.1 dX6_reachOf_1 rfl (lv_at hl 1 rfl) ?_
  refine lv_lshl X.1 X.2.1 dX6_reachOf_2 rfl ?_
  refine lv_topl (fun v4_1 e_v4_1 => ?_)
  replace h := h v4_1 e_v4_1
  refine lv_lstore (lv' := [(4, .long v4_1), (0, .ref hMO), (1, .int v1), (2, .long v2)]) X.1 X.2.1 dX6_reachOf_3 hl (by decide) rfl (fun ls hl => ?_)
  refine lv_lconst (v := (0 : Int64)) X.1 X.2.1 dX6_reachOf_5 (by decide) ?_
  refine lv_lstore (lv' := [(6, .long (0 : Int64)), (4, .long v4_1), (0, .ref hMO), (1, .int v1), (2, .long v2)]) X.1 X.2.1 dX6_reachOf_6 hl (by decide) rfl (fun ls hl => ?_)
  obtain ⟨n', h⟩ := h
  exact s_MO_reachOf_8 X  n' v2 v4_1 (0 : Int64) _ _ _ h hP hD hS (lv_sub hl [2, 4, 1, 0] rfl)
abbrev rm_MO_reach : Room := { frames := 3, cells := 0, slots := 0, locals := 75 }
set_option maxHeartbeats 4000000 in
set_option maxRecDepth 100000 in
theorem c_MO_reach (l : Launch) (G : gEnv) (hMO : Nat) (hTM : Nat) (hDO : Nat) (hXB : Nat) (hXC : Nat) (hXF : Nat) (hXY : Nat) (hXS : Nat) (hXP : Nat) (hFA : Nat) (hLE : Nat) (mo_thrown : Int32) (mo_size : Int32) (mo_isBoard : Int32) (mo_width : Int32) (mo_height : Int32) (mo_person : Int32) (mo_moves : Int32) (mo_pushes : Int32) (mo_floor : Int64) (mo_goals : Int64) (mo_boxes : Int64) (mo_newFloor : Int64) (mo_newGoals : Int64) (mo_newBoxes : Int64) (mo_newPerson : Int32) (mo_newWidth : Int32) (mo_kept : Int32) (mo_many : Int32) (mo_taken : Int32) (mo_length : Int32) (post : Int32 → Int32 → Prop) (h : MO_reach mo_isBoard mo_width mo_height mo_person mo_floor mo_boxes mo_thrown post) (sz : Nat) : Met l yX6_reach (Cond.code yX6_reach cX6_reach 1 (some .int) :: wAll) (rm_MO_reach) (gPc G [.ref hMO] [cMO hMO mo_thrown mo_size hTM mo_isBoard mo_width mo_height mo_person mo_moves mo_pushes mo_floor mo_goals mo_boxes mo_newFloor mo_newGoals mo_newBoxes mo_newPerson mo_newWidth mo_kept hDO mo_many mo_taken mo_length hXB hXC hXF hXY hXS hXP hFA hLE] sz) (gQi G (fun (r : Int32) (u : Int32) => post r u) (fun (u : Int32) => [cMO hMO u mo_size hTM mo_isBoard mo_width mo_height mo_person mo_moves mo_pushes mo_floor mo_goals mo_boxes mo_newFloor mo_newGoals mo_newBoxes mo_newPerson mo_newWidth mo_kept hDO mo_many mo_taken mo_length hXB hXC hXF hXY hXS hXP hFA hLE]) (va_A [cMO hMO mo_thrown mo_size hTM mo_isBoard mo_width mo_height mo_person mo_moves mo_pushes mo_floor mo_goals mo_boxes mo_newFloor mo_newGoals mo_newBoxes mo_newPerson mo_newWidth mo_kept hDO mo_many mo_taken mo_length hXB hXC hXF hXY hXS hXP hFA hLE] sz)) 0 0 (va_A [cMO hMO mo_thrown mo_size hTM mo_isBoard mo_width mo_height mo_person mo_moves mo_pushes mo_floor mo_goals mo_boxes mo_newFloor mo_newGoals mo_newBoxes mo_newPerson mo_newWidth mo_kept hDO mo_many mo_taken mo_length hXB hXC hXF hXY hXS hXP hFA hLE] sz) := by
  refine Met.ofW (cc := cX6_reach) (maxL := 1) (ret := (some .int)) (by decide) rfl ?_
  intro p e s m args below meth c s₁ B hml hv
  obtain ⟨rfl, hsz, hP, hK, hD0⟩ := hv
  subst hsz
  have X := gX.ofB (ws := [cMO hMO mo_thrown mo_size hTM mo_isBoard mo_width mo_height mo_person mo_moves mo_pushes mo_floor mo_goals mo_boxes mo_newFloor mo_newGoals mo_newBoxes mo_newPerson mo_newWidth mo_kept hDO mo_many mo_taken mo_length hXB hXC hXF hXY hXS hXP hFA hLE]) B hml hK hD0
  have hD := hD0.self (sz := s.heap.size)
  generalize hAe : va_A [cMO hMO mo_thrown mo_size hTM mo_isBoard mo_width mo_height mo_person mo_moves mo_pushes mo_floor mo_goals mo_boxes mo_newFloor mo_newGoals mo_newBoxes mo_newPerson mo_newWidth mo_kept hDO mo_many mo_taken mo_length hXB hXC hXF hXY hXS hXP hFA hLE] s.heap.size = A at X hD ⊢
  have hS : va_S A s.heap s.heap [] := va_S.rf
  have hl := lv_entry ([.ref hMO]) (n := 1) (Nat.le_of_ble_eq_true rfl)
  rw [lg_entry_eq]
  generalize (lg_sl ([.ref hMO]) ++ List.replicate (1 - (lg_sl ([.ref hMO])).length) Slot.unset).toArray = ls at hl ⊢
  have hl : lv_has ls 1 [(0, .ref hMO)] := hl
  dsimp only [headSpec]
  unfold MO_reach at h
  refine lv_aload_n X.1 X.2.1 dX6_reach_0 rfl (lv_at hl 0 rfl) ?_
  refine lv_iconst (v := (0 : Int32)) X.1 X.2.1 dX6_reach_1 (by decide) ?_
  refine g_put X hP hD hS 0 6 0 (v := .int (0 : Int32)) rfl rfl inX6 tyX6 tyX6_ok nmX6 (by decide) fl_X6_42 rfl rfl rfl rfl (Nat.le_of_ble_eq_true rfl) dX6_reach_2 (fun H locs hP hD hS => ?_)
  replace hP : va_P G.1 gCl [cMO hMO (0 : Int32) mo_size hTM mo_isBoard mo_width mo_height mo_person mo_moves mo_pushes mo_floor mo_goals mo_boxes mo_newFloor mo_newGoals mo_newBoxes mo_newPerson mo_newWidth mo_kept hDO mo_many mo_taken mo_length hXB hXC hXF hXY hXS hXP hFA hLE] H := hP
  replace hD : va_D A [cMO hMO (0 : Int32) mo_size hTM mo_isBoard mo_width mo_height mo_person mo_moves mo_pushes mo_floor mo_goals mo_boxes mo_newFloor mo_newGoals mo_newBoxes mo_newPerson mo_newWidth mo_kept hDO mo_many mo_taken mo_length hXB hXC hXF hXY hXS hXP hFA hLE] := hD
  refine lv_aload_n X.1 X.2.1 dX6_reach_5 rfl (lv_at hl 0 rfl) ?_
  refine g_get X hP 0 6 3 (v := .int mo_isBoard) rfl rfl inX6 (by decide) fl_X6_83 rfl dX6_reach_6 ?_
  refine lv_if_eq (tgt := 30) X.1 X.2.1 dX6_reach_9 (by decide) (fun hc => ?_) (fun hc => ?_)
  · replace h := Eq.mp (if_pos hc) h
    refine lv_iconst (v := (0 : Int32)) X.1 X.2.1 dX6_reach_30 (by decide) ?_
    exact g_iret X (0 : Int32) h hP hD hS dX6_reach_31
  · replace h := Eq.mp (if_neg hc) h
    refine lv_aload_n X.1 X.2.1 dX6_reach_12 rfl (lv_at hl 0 rfl) ?_
    refine lv_aload_n X.1 X.2.1 dX6_reach_13 rfl (lv_at hl 0 rfl) ?_
    refine g_get X hP 0 6 6 (v := .int mo_person) rfl rfl inX6 (by decide) fl_X6_100 rfl dX6_reach_14 ?_
    refine lv_aload_n X.1 X.2.1 dX6_reach_17 rfl (lv_at hl 0 rfl) ?_
    refine g_get X hP 0 6 11 (v := .long mo_boxes) rfl rfl inX6 (by decide) fl_X6_97 rfl dX6_reach_18 ?_
    refine g_cl (wr := []) X [0] [] (g_rV (As := [.int mo_person, .long mo_boxes]) (rest := []) X (c_MO_reachOf l G hMO hTM hDO hXB hXC hXF hXY hXS hXP hFA hLE (0 : Int32) mo_size mo_isBoard mo_width mo_height mo_person mo_moves mo_pushes mo_floor mo_goals mo_boxes mo_newFloor mo_newGoals mo_newBoxes mo_newPerson mo_newWidth mo_kept mo_many mo_taken mo_length mo_person mo_boxes _ h _) lk_X6_139 rfl rfl ⟨Nat.le_of_ble_eq_true rfl, Nat.le_of_ble_eq_true rfl⟩ hP hD hS [0] rfl rfl 0 6 rfl rfl rfl hl.1 rfl (Nat.le_of_ble_eq_true rfl) dX6_reach_21 ⟨Nat.le_of_ble_eq_true rfl, Nat.le_of_ble_eq_true rfl⟩) hP hD hS rfl rfl rfl (by decide) (fun r_1 u H locs h hP hD hS => ?_)
    try dsimp only at h
    replace hP := hP.sub (ws' := [cMO hMO (0 : Int32) mo_size hTM mo_isBoard mo_width mo_height mo_person mo_moves mo_pushes mo_floor mo_goals mo_boxes mo_newFloor mo_newGoals mo_newBoxes mo_newPerson mo_newWidth mo_kept hDO mo_many mo_taken mo_length hXB hXC hXF hXY hXS hXP hFA hLE]) [0] rfl
    replace hD := hD.sub (ws' := [cMO hMO (0 : Int32) mo_size hTM mo_isBoard mo_width mo_height mo_person mo_moves mo_pushes mo_floor mo_goals mo_boxes mo_newFloor mo_newGoals mo_newBoxes mo_newPerson mo_newWidth mo_kept hDO mo_many mo_taken mo_length hXB hXC hXF hXY hXS hXP hFA hLE]) [0] rfl rfl
    refine g_ci (wr := [cMO hMO (0 : Int32) mo_size hTM mo_isBoard mo_width mo_height mo_person mo_moves mo_pushes mo_floor mo_goals mo_boxes mo_newFloor mo_newGoals mo_newBoxes mo_newPerson mo_newWidth mo_kept hDO mo_many mo_taken mo_length hXB hXC hXF hXY hXS hXP hFA hLE]) X [] [0] (g_rS (As := [.long r_1]) (rest := []) X (c_MO_countOf l G r_1 _ h _) lk_X6_75 rfl rfl ⟨Nat.le_of_ble_eq_true rfl, Nat.le_of_ble_eq_true rfl⟩ hP hD hS [] rfl rfl rfl hl.1 rfl (Nat.le_of_ble_eq_true rfl) dX6_reach_24 ⟨Nat.le_of_ble_eq_true rfl, Nat.le_of_ble_eq_true rfl⟩) hP hD hS rfl rfl rfl (by decide) (fun r_2 u H locs h hP hD hS => ?_)
    try dsimp only at h
    replace hP := hP.sub (ws' := [cMO hMO (0 : Int32) mo_size hTM mo_isBoard mo_width mo_height mo_person mo_moves mo_pushes mo_floor mo_goals mo_boxes mo_newFloor mo_newGoals mo_newBoxes mo_newPerson mo_newWidth mo_kept hDO mo_many mo_taken mo_length hXB hXC hXF hXY hXS hXP hFA hLE]) [0] rfl
    replace hD := hD.sub (ws' := [cMO hMO (0 : Int32) mo_size hTM mo_isBoard mo_width mo_height mo_person mo_moves mo_pushes mo_floor mo_goals mo_boxes mo_newFloor mo_newGoals mo_newBoxes mo_newPerson mo_newWidth mo_kept hDO mo_many mo_taken mo_length hXB hXC hXF hXY hXS hXP hFA hLE]) [0] rfl rfl
    refine lv_goto (tgt := 31) X.1 X.2.1 dX6_reach_27 (by decide) ?_
    exact g_iret X (0 : Int32) h hP hD hS dX6_reach_31
abbrev rm_MO_way : Room := { frames := 2, cells := 0, slots := 0, locals := 46 }
set_option maxHeartbeats 4000000 in
set_option maxRecDepth 100000 in
theorem s_MO_way_115 {p : Program} {l : Launch} {e : Env} {s : State} {m : MethodId} {args : Array Value} {below : List Frame} {meth : Method} {c : Code} {G : gEnv} {A : Nat → Prop} {hMO : Nat} {hTM : Nat} {hDO : Nat} {hXB : Nat} {hXC : Nat} {hXF : Nat} {hXY : Nat} {hXS : Nat} {hXP : Nat} {hFA : Nat} {hLE : Nat} {mo_size : Int32} {mo_isBoard : Int32} {mo_moves : Int32} {mo_pushes : Int32} {mo_goals : Int64} {mo_newFloor : Int64} {mo_newGoals : Int64} {mo_newBoxes : Int64} {mo_newPerson : Int32} {mo_newWidth : Int32} {mo_kept : Int32} {mo_many : Int32} {mo_taken : Int32} {mo_length : Int32} {mo_width : Int32} {mo_height : Int32} {mo_person : Int32} {mo_floor : Int64} {mo_boxes : Int64} {k68 : Int32 → (Nat → Int32) → Int32 → Int32 → Int32 → Int32 → Prop} {post : Int32 → Int32 → (Nat → Int32) → Prop} (X : gX p m meth c cX6_way 6 RX6 (some .int) s args G A) (hk68 : ∀ (mo_thrown' : Int32) (aFA' : (Nat → Int32)) (v1' : Int32) (v2' : Int32) (v3' : Int32) (v4' : Int32) (H : Heap) (locs : List Loc) (ls : Array Slot), k68 mo_thrown' aFA' v1' v2' v3' v4' → va_P G.1 gCl [cMO hMO mo_thrown' mo_size hTM mo_isBoard mo_width mo_height mo_person mo_moves mo_pushes mo_floor mo_goals mo_boxes mo_newFloor mo_newGoals mo_newBoxes mo_newPerson mo_newWidth mo_kept hDO mo_many mo_taken mo_length hXB hXC hXF hXY hXS hXP hFA hLE, cI G hFA 64 aFA'] H → va_D A [cMO hMO mo_thrown' mo_size hTM mo_isBoard mo_width mo_height mo_person mo_moves mo_pushes mo_floor mo_goals mo_boxes mo_newFloor mo_newGoals mo_newBoxes mo_newPerson mo_newWidth mo_kept hDO mo_many mo_taken mo_length hXB hXC hXF hXY hXS hXP hFA hLE, cI G hFA 64 aFA'] → va_S A s.heap H locs → lv_has ls 6 [(0, .ref hMO), (1, .int v1'), (2, .int v2'), (3, .int v3'), (4, .int v4')] → W p l e rm_MO_way s m args below meth c H locs 0 0 (MQ below (gQi G (fun (r : Int32) (u : Int32 × (Nat → Int32)) => post r u.1 u.2) (fun (u : Int32 × (Nat → Int32)) => [cMO hMO u.1 mo_size hTM mo_isBoard mo_width mo_height mo_person mo_moves mo_pushes mo_floor mo_goals mo_boxes mo_newFloor mo_newGoals mo_newBoxes mo_newPerson mo_newWidth mo_kept hDO mo_many mo_taken mo_length hXB hXC hXF hXY hXS hXP hFA hLE, cI G hFA 64 u.2]) A) args s 0 0 A) (F0 m 68 ls [])) : ∀ (n : Nat) (mo_thrown : Int32) (aFA : (Nat → Int32)) (v1 : Int32) (v2 : Int32) (v3 : Int32) (v4 : Int32) (v5 : Int32) (H : Heap) (locs : List Loc) (ls : Array Slot), MO_way_115 mo_width mo_height mo_person mo_floor mo_boxes k68 post n mo_thrown aFA v1 v2 v3 v4 v5 → va_P G.1 gCl [cMO hMO mo_thrown mo_size hTM mo_isBoard mo_width mo_height mo_person mo_moves mo_pushes mo_floor mo_goals mo_boxes mo_newFloor mo_newGoals mo_newBoxes mo_newPerson mo_newWidth mo_kept hDO mo_many mo_taken mo_length hXB hXC hXF hXY hXS hXP hFA hLE, cI G hFA 64 aFA] H → va_D A [cMO hMO mo_thrown mo_size hTM mo_isBoard mo_width mo_height mo_person mo_moves mo_pushes mo_floor mo_goals mo_boxes mo_newFloor mo_newGoals mo_newBoxes mo_newPerson mo_newWidth mo_kept hDO mo_many mo_taken mo_length hXB hXC hXF hXY hXS hXP hFA hLE, cI G hFA 64 aFA] → va_S A s.heap H locs → lv_has ls 6 [(0, .ref hMO), (1, .int v1), (2, .int v2), (3, .int v3), (4, .int v4), (5, .int v5)] → W p l e rm_MO_way s m args below meth c H locs 0 0 (MQ below (gQi G (fun (r : Int32) (u : Int32 × (Nat → Int32)) => post r u.1 u.2) (fun (u : Int32 × (Nat → Int32)) => [cMO hMO u.1 mo_size hTM mo_isBoard mo_width mo_height mo_person mo_moves mo_pushes mo_floor mo_goals mo_boxes mo_newFloor mo_newGoals mo_newBoxes mo_newPerson mo_newWidth mo_kept hDO mo_many mo_taken mo_length hXB hXC hXF hXY hXS hXP hFA hLE, cI G hFA 64 u.2]) A) args s 0 0 A) (F0 m 115 ls []) := by
  intro n
  induction n with
  | zero => intro mo_thrown aFA v1 v2 v3 v4 v5 H locs ls h _ _ _ _; exact h.elim
  | succ n ih =>
    intro mo_thrown aFA v1 v2 v3 v4 v5 H locs ls h hP hD hS hl
    unfold MO_way_115 at h
    refine lv_iload X.1 X.2.1 dX6_way_115 (lv_at hl 5 rfl) ?_
    refine lv_iconst (v := (4 : Int32)) X.1 X.2.1 dX6_way_117 (by decide) ?_
    refine lv_icmp_ge (tgt := 165) X.1 X.2.1 dX6_way_118 (by decide) (fun hc => ?_) (fun hc => ?_)
    · replace h := Eq.mp (if_pos hc) h
      refine lv_iinc (v := (v4 + (1 : Int32))) (lv' := [(4, .int (v4 + (1 : Int32))), (0, .ref hMO), (1, .int v1), (2, .int v2), (3, .int v3), (5, .int v5)]) X.1 X.2.1 dX6_way_165 hl (k := 4) rfl rfl (by decide) rfl (fun ls hl => ?_)
      refine lv_goto (tgt := 68) X.1 X.2.1 dX6_way_168 (by decide) ?_
      exact hk68 mo_thrown aFA v1 v2 v3 (v4 + (1 : Int32)) _ _ _ h hP hD hS (lv_sub hl [1, 2, 3, 4, 0] rfl)
    · replace h := Eq.mp (if_neg hc) h
      refine lv_aload_n X.1 X.2.1 dX6_way_121 rfl (lv_at hl 0 rfl) ?_
      refine lv_iload X.1 X.2.1 dX6_way_122 (lv_at hl 4 rfl) ?_
      refine lv_iload X.1 X.2.1 dX6_way_124 (lv_at hl 5 rfl) ?_
      refine g_ci (wr := [cI G hFA 64 aFA]) X [0] [1] (g_rV (As := [.int v4, .int v5]) (rest := []) X (c_MO_beside l G hMO hTM hDO hXB hXC hXF hXY hXS hXP hFA hLE mo_thrown mo_size mo_isBoard mo_width mo_height mo_person mo_moves mo_pushes mo_floor mo_goals mo_boxes mo_newFloor mo_newGoals mo_newBoxes mo_newPerson mo_newWidth mo_kept mo_many mo_taken mo_length v4 v5 _ h _) lk_X6_112 rfl rfl ⟨Nat.le_of_ble_eq_true rfl, Nat.le_of_ble_eq_true rfl⟩ hP hD hS [0] rfl rfl 0 6 rfl rfl rfl hl.1 rfl (Nat.le_of_ble_eq_true rfl) dX6_way_126 ⟨Nat.le_of_ble_eq_true rfl, Nat.le_of_ble_eq_true rfl⟩) hP hD hS rfl rfl rfl (by decide) (fun r_1 u H locs h hP hD hS => ?_)
      try dsimp only at h
      replace hP := hP.sub (ws' := [cMO hMO mo_thrown mo_size hTM mo_isBoard mo_width mo_height mo_person mo_moves mo_pushes mo_floor mo_goals mo_boxes mo_newFloor mo_newGoals mo_newBoxes mo_newPerson mo_newWidth mo_kept hDO mo_many mo_taken mo_length hXB hXC hXF hXY hXS hXP hFA hLE, cI G hFA 64 aFA]) [1, 0] rfl
      replace hD := hD.sub (ws' := [cMO hMO mo_thrown mo_size hTM mo_isBoard mo_width mo_height mo_person mo_moves mo_pushes mo_floor mo_goals mo_boxes mo_newFloor mo_newGoals mo_newBoxes mo_newPerson mo_newWidth mo_kept hDO mo_many mo_taken mo_length hXB hXC hXF hXY hXS hXP hFA hLE, cI G hFA 64 aFA]) [1, 0] rfl rfl
      refine lv_if_lt (tgt := 159) X.1 X.2.1 dX6_way_129 (by decide) (fun hc => ?_) (fun hc => ?_)
      · replace h := Eq.mp (if_pos hc) h
        refine lv_iinc (v := (v5 + (1 : Int32))) (lv' := [(5, .int (v5 + (1 : Int32))), (0, .ref hMO), (1, .int v1), (2, .int v2), (3, .int v3), (4, .int v4)]) X.1 X.2.1 dX6_way_159 hl (k := 5) rfl rfl (by decide) rfl (fun ls hl => ?_)
        refine lv_goto (tgt := 115) X.1 X.2.1 dX6_way_162 (by decide) ?_
        exact ih mo_thrown aFA v1 v2 v3 v4 (v5 + (1 : Int32)) _ _ _ h hP hD hS (lv_sub hl [1, 2, 3, 4, 5, 0] rfl)
      · replace h := Eq.mp (if_neg hc) h
        refine lv_aload_n X.1 X.2.1 dX6_way_132 rfl (lv_at hl 0 rfl) ?_
        refine g_get X hP 0 6 28 (v := .ref hFA) rfl rfl inX6 (by decide) fl_X6_36 rfl dX6_way_133 ?_
        refine lv_aload_n X.1 X.2.1 dX6_way_136 rfl (lv_at hl 0 rfl) ?_
        refine lv_iload X.1 X.2.1 dX6_way_137 (lv_at hl 4 rfl) ?_
        refine lv_iload X.1 X.2.1 dX6_way_139 (lv_at hl 5 rfl) ?_
        refine g_ci (wr := [cI G hFA 64 aFA]) X [0] [1] (g_rV (As := [.int v4, .int v5]) (rest := [.ref hFA]) X (c_MO_beside l G hMO hTM hDO hXB hXC hXF hXY hXS hXP hFA hLE mo_thrown mo_size mo_isBoard mo_width mo_height mo_person mo_moves mo_pushes mo_floor mo_goals mo_boxes mo_newFloor mo_newGoals mo_newBoxes mo_newPerson mo_newWidth mo_kept mo_many mo_taken mo_length v4 v5 _ h _) lk_X6_112 rfl rfl ⟨Nat.le_of_ble_eq_true rfl, Nat.le_of_ble_eq_true rfl⟩ hP hD hS [0] rfl rfl 0 6 rfl rfl rfl hl.1 rfl (Nat.le_of_ble_eq_true rfl) dX6_way_141 ⟨Nat.le_of_ble_eq_true rfl, Nat.le_of_ble_eq_true rfl⟩) hP hD hS rfl rfl rfl (by decide) (fun r_2 u H locs h hP hD hS => ?_)
        try dsimp only at h
        replace hP := hP.sub (ws' := [cMO hMO mo_thrown mo_size hTM mo_isBoard mo_width mo_height mo_person mo_moves mo_pushes mo_floor mo_goals mo_boxes mo_newFloor mo_newGoals mo_newBoxes mo_newPerson mo_newWidth mo_kept hDO mo_many mo_taken mo_length hXB hXC hXF hXY hXS hXP hFA hLE, cI G hFA 64 aFA]) [1, 0] rfl
        replace hD := hD.sub (ws' := [cMO hMO mo_thrown mo_size hTM mo_isBoard mo_width mo_height mo_person mo_moves mo_pushes mo_floor mo_goals mo_boxes mo_newFloor mo_newGoals mo_newBoxes mo_newPerson mo_newWidth mo_kept hDO mo_many mo_taken mo_length hXB hXC hXF hXY hXS hXP hFA hLE, cI G hFA 64 aFA]) [1, 0] rfl rfl
        obtain ⟨hin, h⟩ := h
        refine va_iald (D := G.1) X.1 X.2.1 X.k.1 hP 1 0 rfl rfl hin dX6_way_144 ?_
        refine lv_iload_n X.1 X.2.1 dX6_way_145 rfl (lv_at hl 3 rfl) ?_
        refine lv_icmp_ne (tgt := 159) X.1 X.2.1 dX6_way_146 (by decide) (fun hc => ?_) (fun hc => ?_)
        · replace h := Eq.mp (if_neg hc) h
          refine lv_iinc (v := (v5 + (1 : Int32))) (lv' := [(5, .int (v5 + (1 : Int32))), (0, .ref hMO), (1, .int v1), (2, .int v2), (3, .int v3), (4, .int v4)]) X.1 X.2.1 dX6_way_159 hl (k := 5) rfl rfl (by decide) rfl (fun ls hl => ?_)
          refine lv_goto (tgt := 115) X.1 X.2.1 dX6_way_162 (by decide) ?_
          exact ih mo_thrown aFA v1 v2 v3 v4 (v5 + (1 : Int32)) _ _ _ h hP hD hS (lv_sub hl [1, 2, 3, 4, 5, 0] rfl)
        · replace h := Eq.mp (if_pos hc) h
          refine lv_aload_n X.1 X.2.1 dX6_way_149 rfl (lv_at hl 0 rfl) ?_
          refine g_get X hP 0 6 28 (v := .ref hFA) rfl rfl inX6 (by decide) fl_X6_36 rfl dX6_way_150 ?_
          refine lv_iload X.1 X.2.1 dX6_way_153 (lv_at hl 4 rfl) ?_
          refine lv_iload_n X.1 X.2.1 dX6_way_155 rfl (lv_at hl 3 rfl) ?_
          refine lv_iconst (v := (1 : Int32)) X.1 X.2.1 dX6_way_156 (by decide) ?_
          refine lv_iadd X.1 X.2.1 dX6_way_157 ?_
          refine lv_topi (fun x_3 e_x_3 => ?_)
          replace h := h x_3 e_x_3
          obtain ⟨hin, h⟩ := h
          refine g_ist X hP hD hS 1 rfl hin dX6_way_158 (fun aFA_4 e_aFA_4 H locs hP hD hS => ?_)
          replace h := h aFA_4 e_aFA_4
          replace hP : va_P G.1 gCl [cMO hMO mo_thrown mo_size hTM mo_isBoard mo_width mo_height mo_person mo_moves mo_pushes mo_floor mo_goals mo_boxes mo_newFloor mo_newGoals mo_newBoxes mo_newPerson mo_newWidth mo_kept hDO mo_many mo_taken mo_length hXB hXC hXF hXY hXS hXP hFA hLE, cI G hFA 64 aFA_4] H := hP
          replace hD : va_D A [cMO hMO mo_thrown mo_size hTM mo_isBoard mo_width mo_height mo_person mo_moves mo_pushes mo_floor mo_goals mo_boxes mo_newFloor mo_newGoals mo_newBoxes mo_newPerson mo_newWidth mo_kept hDO mo_many mo_taken mo_length hXB hXC hXF hXY hXS hXP hFA hLE, cI G hFA 64 aFA_4] := hD
          refine lv_iinc (v := (v5 + (1 : Int32))) (lv' := [(5, .int (v5 + (1 : Int32))), (0, .ref hMO), (1, .int v1), (2, .int v2), (3, .int v3), (4, .int v4)]) X.1 X.2.1 dX6_way_159 hl (k := 5) rfl rfl (by decide) rfl (fun ls hl => ?_)
          refine lv_goto (tgt := 115) X.1 X.2.1 dX6_way_162 (by decide) ?_
          exact ih mo_thrown aFA_4 v1 v2 v3 v4 (v5 + (1 : Int32)) _ _ _ h hP hD hS (lv_sub hl [1, 2, 3, 4, 5, 0] rfl)
set_option maxHeartbeats 4000000 in
set_option maxRecDepth 100000 in
theorem s_MO_way_68 {p : Program} {l : Launch} {e : Env} {s : State} {m : MethodId} {args : Array Value} {below : List Frame} {meth : Method} {c : Code} {G : gEnv} {A : Nat → Prop} {hMO : Nat} {hTM : Nat} {hDO : Nat} {hXB : Nat} {hXC : Nat} {hXF : Nat} {hXY : Nat} {hXS : Nat} {hXP : Nat} {hFA : Nat} {hLE : Nat} {mo_size : Int32} {mo_isBoard : Int32} {mo_moves : Int32} {mo_pushes : Int32} {mo_goals : Int64} {mo_newFloor : Int64} {mo_newGoals : Int64} {mo_newBoxes : Int64} {mo_newPerson : Int32} {mo_newWidth : Int32} {mo_kept : Int32} {mo_many : Int32} {mo_taken : Int32} {mo_length : Int32} {mo_width : Int32} {mo_height : Int32} {mo_person : Int32} {mo_floor : Int64} {mo_boxes : Int64} {k59 : Int32 → (Nat → Int32) → Int32 → Int32 → Int32 → Prop} {post : Int32 → Int32 → (Nat → Int32) → Prop} (X : gX p m meth c cX6_way 6 RX6 (some .int) s args G A) (hk59 : ∀ (mo_thrown' : Int32) (aFA' : (Nat → Int32)) (v1' : Int32) (v2' : Int32) (v3' : Int32) (H : Heap) (locs : List Loc) (ls : Array Slot), k59 mo_thrown' aFA' v1' v2' v3' → va_P G.1 gCl [cMO hMO mo_thrown' mo_size hTM mo_isBoard mo_width mo_height mo_person mo_moves mo_pushes mo_floor mo_goals mo_boxes mo_newFloor mo_newGoals mo_newBoxes mo_newPerson mo_newWidth mo_kept hDO mo_many mo_taken mo_length hXB hXC hXF hXY hXS hXP hFA hLE, cI G hFA 64 aFA'] H → va_D A [cMO hMO mo_thrown' mo_size hTM mo_isBoard mo_width mo_height mo_person mo_moves mo_pushes mo_floor mo_goals mo_boxes mo_newFloor mo_newGoals mo_newBoxes mo_newPerson mo_newWidth mo_kept hDO mo_many mo_taken mo_length hXB hXC hXF hXY hXS hXP hFA hLE, cI G hFA 64 aFA'] → va_S A s.heap H locs → lv_has ls 6 [(0, .ref hMO), (1, .int v1'), (2, .int v2'), (3, .int v3')] → W p l e rm_MO_way s m args below meth c H locs 0 0 (MQ below (gQi G (fun (r : Int32) (u : Int32 × (Nat → Int32)) => post r u.1 u.2) (fun (u : Int32 × (Nat → Int32)) => [cMO hMO u.1 mo_size hTM mo_isBoard mo_width mo_height mo_person mo_moves mo_pushes mo_floor mo_goals mo_boxes mo_newFloor mo_newGoals mo_newBoxes mo_newPerson mo_newWidth mo_kept hDO mo_many mo_taken mo_length hXB hXC hXF hXY hXS hXP hFA hLE, cI G hFA 64 u.2]) A) args s 0 0 A) (F0 m 59 ls [])) : ∀ (n : Nat) (mo_thrown : Int32) (aFA : (Nat → Int32)) (v1 : Int32) (v2 : Int32) (v3 : Int32) (v4 : Int32) (H : Heap) (locs : List Loc) (ls : Array Slot), MO_way_68 mo_width mo_height mo_person mo_floor mo_boxes k59 post n mo_thrown aFA v1 v2 v3 v4 → va_P G.1 gCl [cMO hMO mo_thrown mo_size hTM mo_isBoard mo_width mo_height mo_person mo_moves mo_pushes mo_floor mo_goals mo_boxes mo_newFloor mo_newGoals mo_newBoxes mo_newPerson mo_newWidth mo_kept hDO mo_many mo_taken mo_length hXB hXC hXF hXY hXS hXP hFA hLE, cI G hFA 64 aFA] H → va_D A [cMO hMO mo_thrown mo_size hTM mo_isBoard mo_width mo_height mo_person mo_moves mo_pushes mo_floor mo_goals mo_boxes mo_newFloor mo_newGoals mo_newBoxes mo_newPerson mo_newWidth mo_kept hDO mo_many mo_taken mo_length hXB hXC hXF hXY hXS hXP hFA hLE, cI G hFA 64 aFA] → va_S A s.heap H locs → lv_has ls 6 [(0, .ref hMO), (1, .int v1), (2, .int v2), (3, .int v3), (4, .int v4)] → W p l e rm_MO_way s m args below meth c H locs 0 0 (MQ below (gQi G (fun (r : Int32) (u : Int32 × (Nat → Int32)) => post r u.1 u.2) (fun (u : Int32 × (Nat → Int32)) => [cMO hMO u.1 mo_size hTM mo_isBoard mo_width mo_height mo_person mo_moves mo_pushes mo_floor mo_goals mo_boxes mo_newFloor mo_newGoals mo_newBoxes mo_newPerson mo_newWidth mo_kept hDO mo_many mo_taken mo_length hXB hXC hXF hXY hXS hXP hFA hLE, cI G hFA 64 u.2]) A) args s 0 0 A) (F0 m 68 ls []) := by
  intro n
  induction n with
  | zero => intro mo_thrown aFA v1 v2 v3 v4 H locs ls h _ _ _ _; exact h.elim
  | succ n ih =>
    intro mo_thrown aFA v1 v2 v3 v4 H locs ls h hP hD hS hl
    unfold MO_way_68 at h
    refine lv_iload X.1 X.2.1 dX6_way_68 (lv_at hl 4 rfl) ?_
    refine lv_bipush (v := (64 : Int32)) X.1 X.2.1 dX6_way_70 (by decide) ?_
    refine lv_icmp_ge (tgt := 171) X.1 X.2.1 dX6_way_72 (by decide) (fun hc => ?_) (fun hc => ?_)
    · replace h := Eq.mp (if_pos hc) h
      refine lv_iinc (v := (v3 + (1 : Int32))) (lv' := [(3, .int (v3 + (1 : Int32))), (0, .ref hMO), (1, .int v1), (2, .int v2), (4, .int v4)]) X.1 X.2.1 dX6_way_171 hl (k := 3) rfl rfl (by decide) rfl (fun ls hl => ?_)
      refine lv_goto (tgt := 59) X.1 X.2.1 dX6_way_174 (by decide) ?_
      exact hk59 mo_thrown aFA v1 v2 (v3 + (1 : Int32)) _ _ _ h hP hD hS (lv_sub hl [1, 2, 3, 0] rfl)
    · replace h := Eq.mp (if_neg hc) h
      refine lv_aload_n X.1 X.2.1 dX6_way_75 rfl (lv_at hl 0 rfl) ?_
      refine g_get X hP 0 6 9 (v := .long mo_floor) rfl rfl inX6 (by decide) fl_X6_87 rfl dX6_way_76 ?_
      refine lv_iload X.1 X.2.1 dX6_way_79 (lv_at hl 4 rfl) ?_
      refine g_ci (wr := [cMO hMO mo_thrown mo_size hTM mo_isBoard mo_width mo_height mo_person mo_moves mo_pushes mo_floor mo_goals mo_boxes mo_newFloor mo_newGoals mo_newBoxes mo_newPerson mo_newWidth mo_kept hDO mo_many mo_taken mo_length hXB hXC hXF hXY hXS hXP hFA hLE, cI G hFA 64 aFA]) X [] [0, 1] (g_rS (As := [.long mo_floor, .int v4]) (rest := []) X (c_MO_has l G mo_floor v4 _ h _) lk_X6_90 rfl rfl ⟨Nat.le_of_ble_eq_true rfl, Nat.le_of_ble_eq_true rfl⟩ hP hD hS [] rfl rfl rfl hl.1 rfl (Nat.le_of_ble_eq_true rfl) dX6_way_81 ⟨Nat.le_of_ble_eq_true rfl, Nat.le_of_ble_eq_true rfl⟩) hP hD hS rfl rfl rfl (by decide) (fun r_1 u H locs h hP hD hS => ?_)
      try dsimp only at h
      replace hP := hP.sub (ws' := [cMO hMO mo_thrown mo_size hTM mo_isBoard mo_width mo_height mo_person mo_moves mo_pushes mo_floor mo_goals mo_boxes mo_newFloor mo_newGoals mo_newBoxes mo_newPerson mo_newWidth mo_kept hDO mo_many mo_taken mo_length hXB hXC hXF hXY hXS hXP hFA hLE, cI G hFA 64 aFA]) [0, 1] rfl
      replace hD := hD.sub (ws' := [cMO hMO mo_thrown mo_size hTM mo_isBoard mo_width mo_height mo_person mo_moves mo_pushes mo_floor mo_goals mo_boxes mo_newFloor mo_newGoals mo_newBoxes mo_newPerson mo_newWidth mo_kept hDO mo_many mo_taken mo_length hXB hXC hXF hXY hXS hXP hFA hLE, cI G hFA 64 aFA]) [0, 1] rfl rfl
      refine lv_if_eq (tgt := 165) X.1 X.2.1 dX6_way_84 (by decide) (fun hc => ?_) (fun hc => ?_)
      · replace h := Eq.mp (if_pos hc) h
        refine lv_iinc (v := (v4 + (1 : Int32))) (lv' := [(4, .int (v4 + (1 : Int32))), (0, .ref hMO), (1, .int v1), (2, .int v2), (3, .int v3)]) X.1 X.2.1 dX6_way_165 hl (k := 4) rfl rfl (by decide) rfl (fun ls hl => ?_)
        refine lv_goto (tgt := 68) X.1 X.2.1 dX6_way_168 (by decide) ?_
        exact ih mo_thrown aFA v1 v2 v3 (v4 + (1 : Int32)) _ _ _ h hP hD hS (lv_sub hl [1, 2, 3, 4, 0] rfl)
      · replace h := Eq.mp (if_neg hc) h
        refine lv_aload_n X.1 X.2.1 dX6_way_87 rfl (lv_at hl 0 rfl) ?_
        refine g_get X hP 0 6 11 (v := .long mo_boxes) rfl rfl inX6 (by decide) fl_X6_97 rfl dX6_way_88 ?_
        refine lv_iload X.1 X.2.1 dX6_way_91 (lv_at hl 4 rfl) ?_
        refine g_ci (wr := [cMO hMO mo_thrown mo_size hTM mo_isBoard mo_width mo_height mo_person mo_moves mo_pushes mo_floor mo_goals mo_boxes mo_newFloor mo_newGoals mo_newBoxes mo_newPerson mo_newWidth mo_kept hDO mo_many mo_taken mo_length hXB hXC hXF hXY hXS hXP hFA hLE, cI G hFA 64 aFA]) X [] [0, 1] (g_rS (As := [.long mo_boxes, .int v4]) (rest := []) X (c_MO_has l G mo_boxes v4 _ h _) lk_X6_90 rfl rfl ⟨Nat.le_of_ble_eq_true rfl, Nat.le_of_ble_eq_true rfl⟩ hP hD hS [] rfl rfl rfl hl.1 rfl (Nat.le_of_ble_eq_true rfl) dX6_way_93 ⟨Nat.le_of_ble_eq_true rfl, Nat.le_of_ble_eq_true rfl⟩) hP hD hS rfl rfl rfl (by decide) (fun r_2 u H locs h hP hD hS => ?_)
        try dsimp only at h
        replace hP := hP.sub (ws' := [cMO hMO mo_thrown mo_size hTM mo_isBoard mo_width mo_height mo_person mo_moves mo_pushes mo_floor mo_goals mo_boxes mo_newFloor mo_newGoals mo_newBoxes mo_newPerson mo_newWidth mo_kept hDO mo_many mo_taken mo_length hXB hXC hXF hXY hXS hXP hFA hLE, cI G hFA 64 aFA]) [0, 1] rfl
        replace hD := hD.sub (ws' := [cMO hMO mo_thrown mo_size hTM mo_isBoard mo_width mo_height mo_person mo_moves mo_pushes mo_floor mo_goals mo_boxes mo_newFloor mo_newGoals mo_newBoxes mo_newPerson mo_newWidth mo_kept hDO mo_many mo_taken mo_length hXB hXC hXF hXY hXS hXP hFA hLE, cI G hFA 64 aFA]) [0, 1] rfl rfl
        refine lv_if_ne (tgt := 165) X.1 X.2.1 dX6_way_96 (by decide) (fun hc => ?_) (fun hc => ?_)
        · replace h := Eq.mp (if_neg hc) h
          refine lv_iinc (v := (v4 + (1 : Int32))) (lv' := [(4, .int (v4 + (1 : Int32))), (0, .ref hMO), (1, .int v1), (2, .int v2), (3, .int v3)]) X.1 X.2.1 dX6_way_165 hl (k := 4) rfl rfl (by decide) rfl (fun ls hl => ?_)
          refine lv_goto (tgt := 68) X.1 X.2.1 dX6_way_168 (by decide) ?_
          exact ih mo_thrown aFA v1 v2 v3 (v4 + (1 : Int32)) _ _ _ h hP hD hS (lv_sub hl [1, 2, 3, 4, 0] rfl)
        · replace h := Eq.mp (if_pos hc) h
          refine lv_aload_n X.1 X.2.1 dX6_way_99 rfl (lv_at hl 0 rfl) ?_
          refine g_get X hP 0 6 28 (v := .ref hFA) rfl rfl inX6 (by decide) fl_X6_36 rfl dX6_way_100 ?_
          refine lv_iload X.1 X.2.1 dX6_way_103 (lv_at hl 4 rfl) ?_
          obtain ⟨hin, h⟩ := h
          refine va_iald (D := G.1) X.1 X.2.1 X.k.1 hP 1 0 rfl rfl hin dX6_way_105 ?_
          refine lv_if_lt (tgt := 112) X.1 X.2.1 dX6_way_106 (by decide) (fun hc => ?_) (fun hc => ?_)
          · replace h := Eq.mp (if_pos hc) h
            refine lv_iconst (v := (0 : Int32)) X.1 X.2.1 dX6_way_112 (by decide) ?_
            refine lv_istore (lv' := [(5, .int (0 : Int32)), (0, .ref hMO), (1, .int v1), (2, .int v2), (3, .int v3), (4, .int v4)]) X.1 X.2.1 dX6_way_113 hl (by decide) rfl (fun ls hl => ?_)
            obtain ⟨n', h⟩ := h
            exact s_MO_way_115 X (fun mo_thrown' aFA' v1' v2' v3' v4' H' locs' ls' h' hP' hD' hS' hl' => ih mo_thrown' aFA' v1' v2' v3' v4' H' locs' ls' h' hP' hD' hS' hl') n' mo_thrown aFA v1 v2 v3 v4 (0 : Int32) _ _ _ h hP hD hS (lv_sub hl [1, 2, 3, 4, 5, 0] rfl)
          · replace h := Eq.mp (if_neg hc) h
            refine lv_goto (tgt := 165) X.1 X.2.1 dX6_way_109 (by decide) ?_
            refine lv_iinc (v := (v4 + (1 : Int32))) (lv' := [(4, .int (v4 + (1 : Int32))), (0, .ref hMO), (1, .int v1), (2, .int v2), (3, .int v3)]) X.1 X.2.1 dX6_way_165 hl (k := 4) rfl rfl (by decide) rfl (fun ls hl => ?_)
            refine lv_goto (tgt := 68) X.1 X.2.1 dX6_way_168 (by decide) ?_
            exact ih mo_thrown aFA v1 v2 v3 (v4 + (1 : Int32)) _ _ _ h hP hD hS (lv_sub hl [1, 2, 3, 4, 0] rfl)
set_option maxHeartbeats 4000000 in
set_option maxRecDepth 100000 in
theorem s_MO_way_59 {p : Program} {l : Launch} {e : Env} {s : State} {m : MethodId} {args : Array Value} {below : List Frame} {meth : Method} {c : Code} {G : gEnv} {A : Nat → Prop} {hMO : Nat} {hTM : Nat} {hDO : Nat} {hXB : Nat} {hXC : Nat} {hXF : Nat} {hXY : Nat} {hXS : Nat} {hXP : Nat} {hFA : Nat} {hLE : Nat} {mo_size : Int32} {mo_isBoard : Int32} {mo_moves : Int32} {mo_pushes : Int32} {mo_goals : Int64} {mo_newFloor : Int64} {mo_newGoals : Int64} {mo_newBoxes : Int64} {mo_newPerson : Int32} {mo_newWidth : Int32} {mo_kept : Int32} {mo_many : Int32} {mo_taken : Int32} {mo_length : Int32} {mo_width : Int32} {mo_height : Int32} {mo_person : Int32} {mo_floor : Int64} {mo_boxes : Int64} {post : Int32 → Int32 → (Nat → Int32) → Prop} (X : gX p m meth c cX6_way 6 RX6 (some .int) s args G A)  : ∀ (n : Nat) (mo_thrown : Int32) (aFA : (Nat → Int32)) (v1 : Int32) (v2 : Int32) (v3 : Int32) (H : Heap) (locs : List Loc) (ls : Array Slot), MO_way_59 mo_width mo_height mo_person mo_floor mo_boxes post n mo_thrown aFA v1 v2 v3 → va_P G.1 gCl [cMO hMO mo_thrown mo_size hTM mo_isBoard mo_width mo_height mo_person mo_moves mo_pushes mo_floor mo_goals mo_boxes mo_newFloor mo_newGoals mo_newBoxes mo_newPerson mo_newWidth mo_kept hDO mo_many mo_taken mo_length hXB hXC hXF hXY hXS hXP hFA hLE, cI G hFA 64 aFA] H → va_D A [cMO hMO mo_thrown mo_size hTM mo_isBoard mo_width mo_height mo_person mo_moves mo_pushes mo_floor mo_goals mo_boxes mo_newFloor mo_newGoals mo_newBoxes mo_newPerson mo_newWidth mo_kept hDO mo_many mo_taken mo_length hXB hXC hXF hXY hXS hXP hFA hLE, cI G hFA 64 aFA] → va_S A s.heap H locs → lv_has ls 6 [(0, .ref hMO), (1, .int v1), (2, .int v2), (3, .int v3)] → W p l e rm_MO_way s m args below meth c H locs 0 0 (MQ below (gQi G (fun (r : Int32) (u : Int32 × (Nat → Int32)) => post r u.1 u.2) (fun (u : Int32 × (Nat → Int32)) => [cMO hMO u.1 mo_size hTM mo_isBoard mo_width mo_height mo_person mo_moves mo_pushes mo_floor mo_goals mo_boxes mo_newFloor mo_newGoals mo_newBoxes mo_newPerson mo_newWidth mo_kept hDO mo_many mo_taken mo_length hXB hXC hXF hXY hXS hXP hFA hLE, cI G hFA 64 u.2]) A) args s 0 0 A) (F0 m 59 ls []) := by
  intro n
  induction n with
  | zero => intro mo_thrown aFA v1 v2 v3 H locs ls h _ _ _ _; exact h.elim
  | succ n ih =>
    intro mo_thrown aFA v1 v2 v3 H locs ls h hP hD hS hl
    unfold MO_way_59 at h
    refine lv_iload_n X.1 X.2.1 dX6_way_59 rfl (lv_at hl 3 rfl) ?_
    refine lv_bipush (v := (64 : Int32)) X.1 X.2.1 dX6_way_60 (by decide) ?_
    refine lv_icmp_ge (tgt := 177) X.1 X.2.1 dX6_way_62 (by decide) (fun hc => ?_) (fun hc => ?_)
    · replace h := Eq.mp (if_pos hc) h
      refine lv_aload_n X.1 X.2.1 dX6_way_177 rfl (lv_at hl 0 rfl) ?_
      refine g_get X hP 0 6 28 (v := .ref hFA) rfl rfl inX6 (by decide) fl_X6_36 rfl dX6_way_178 ?_
      refine lv_bipush (v := (8 : Int32)) X.1 X.2.1 dX6_way_181 (by decide) ?_
      refine lv_iload_n X.1 X.2.1 dX6_way_183 rfl (lv_at hl 2 rfl) ?_
      refine lv_imul X.1 X.2.1 dX6_way_184 ?_
      refine lv_iload_n X.1 X.2.1 dX6_way_185 rfl (lv_at hl 1 rfl) ?_
      refine lv_iadd X.1 X.2.1 dX6_way_186 ?_
      obtain ⟨hin, h⟩ := h
      refine va_iald (D := G.1) X.1 X.2.1 X.k.1 hP 1 0 rfl rfl hin dX6_way_187 ?_
      exact g_iret X (mo_thrown, aFA) h hP hD hS dX6_way_188
    · replace h := Eq.mp (if_neg hc) h
      refine lv_iconst (v := (0 : Int32)) X.1 X.2.1 dX6_way_65 (by decide) ?_
      refine lv_istore (lv' := [(4, .int (0 : Int32)), (0, .ref hMO), (1, .int v1), (2, .int v2), (3, .int v3)]) X.1 X.2.1 dX6_way_66 hl (by decide) rfl (fun ls hl => ?_)
      obtain ⟨n', h⟩ := h
      exact s_MO_way_68 X (fun mo_thrown' aFA' v1' v2' v3' H' locs' ls' h' hP' hD' hS' hl' => ih mo_thrown' aFA' v1' v2' v3' H' locs' ls' h' hP' hD' hS' hl') n' mo_thrown aFA v1 v2 v3 (0 : Int32) _ _ _ h hP hD hS (lv_sub hl [1, 2, 3, 4, 0] rfl)
set_option maxHeartbeats 4000000 in
set_option maxRecDepth 100000 in
theorem s_MO_way_26 {p : Program} {l : Launch} {e : Env} {s : State} {m : MethodId} {args : Array Value} {below : List Frame} {meth : Method} {c : Code} {G : gEnv} {A : Nat → Prop} {hMO : Nat} {hTM : Nat} {hDO : Nat} {hXB : Nat} {hXC : Nat} {hXF : Nat} {hXY : Nat} {hXS : Nat} {hXP : Nat} {hFA : Nat} {hLE : Nat} {mo_size : Int32} {mo_isBoard : Int32} {mo_moves : Int32} {mo_pushes : Int32} {mo_goals : Int64} {mo_newFloor : Int64} {mo_newGoals : Int64} {mo_newBoxes : Int64} {mo_newPerson : Int32} {mo_newWidth : Int32} {mo_kept : Int32} {mo_many : Int32} {mo_taken : Int32} {mo_length : Int32} {mo_width : Int32} {mo_height : Int32} {mo_person : Int32} {mo_floor : Int64} {mo_boxes : Int64} {post : Int32 → Int32 → (Nat → Int32) → Prop} (X : gX p m meth c cX6_way 6 RX6 (some .int) s args G A)  : ∀ (n : Nat) (mo_thrown : Int32) (aFA : (Nat → Int32)) (v1 : Int32) (v2 : Int32) (v3 : Int32) (H : Heap) (locs : List Loc) (ls : Array Slot), MO_way_26 mo_width mo_height mo_person mo_floor mo_boxes post n mo_thrown aFA v1 v2 v3 → va_P G.1 gCl [cMO hMO mo_thrown mo_size hTM mo_isBoard mo_width mo_height mo_person mo_moves mo_pushes mo_floor mo_goals mo_boxes mo_newFloor mo_newGoals mo_newBoxes mo_newPerson mo_newWidth mo_kept hDO mo_many mo_taken mo_length hXB hXC hXF hXY hXS hXP hFA hLE, cI G hFA 64 aFA] H → va_D A [cMO hMO mo_thrown mo_size hTM mo_isBoard mo_width mo_height mo_person mo_moves mo_pushes mo_floor mo_goals mo_boxes mo_newFloor mo_newGoals mo_newBoxes mo_newPerson mo_newWidth mo_kept hDO mo_many mo_taken mo_length hXB hXC hXF hXY hXS hXP hFA hLE, cI G hFA 64 aFA] → va_S A s.heap H locs → lv_has ls 6 [(0, .ref hMO), (1, .int v1), (2, .int v2), (3, .int v3)] → W p l e rm_MO_way s m args below meth c H locs 0 0 (MQ below (gQi G (fun (r : Int32) (u : Int32 × (Nat → Int32)) => post r u.1 u.2) (fun (u : Int32 × (Nat → Int32)) => [cMO hMO u.1 mo_size hTM mo_isBoard mo_width mo_height mo_person mo_moves mo_pushes mo_floor mo_goals mo_boxes mo_newFloor mo_newGoals mo_newBoxes mo_newPerson mo_newWidth mo_kept hDO mo_many mo_taken mo_length hXB hXC hXF hXY hXS hXP hFA hLE, cI G hFA 64 u.2]) A) args s 0 0 A) (F0 m 26 ls []) := by
  intro n
  induction n with
  | zero => intro mo_thrown aFA v1 v2 v3 H locs ls h _ _ _ _; exact h.elim
  | succ n ih =>
    intro mo_thrown aFA v1 v2 v3 H locs ls h hP hD hS hl
    unfold MO_way_26 at h
    refine lv_iload_n X.1 X.2.1 dX6_way_26 rfl (lv_at hl 3 rfl) ?_
    refine lv_bipush (v := (64 : Int32)) X.1 X.2.1 dX6_way_27 (by decide) ?_
    refine lv_icmp_ge (tgt := 57) X.1 X.2.1 dX6_way_29 (by decide) (fun hc => ?_) (fun hc => ?_)
    · replace h := Eq.mp (if_pos hc) h
      refine lv_iconst (v := (0 : Int32)) X.1 X.2.1 dX6_way_57 (by decide) ?_
      refine lv_istore_n (lv' := [(3, .int (0 : Int32)), (0, .ref hMO), (1, .int v1), (2, .int v2)]) X.1 X.2.1 dX6_way_58 rfl hl (by decide) rfl (fun ls hl => ?_)
      obtain ⟨n', h⟩ := h
      exact s_MO_way_59 X  n' mo_thrown aFA v1 v2 (0 : Int32) _ _ _ h hP hD hS (lv_sub hl [1, 2, 3, 0] rfl)
    · replace h := Eq.mp (if_neg hc) h
      refine lv_aload_n X.1 X.2.1 dX6_way_32 rfl (lv_at hl 0 rfl) ?_
      refine g_get X hP 0 6 28 (v := .ref hFA) rfl rfl inX6 (by decide) fl_X6_36 rfl dX6_way_33 ?_
      refine lv_iload_n X.1 X.2.1 dX6_way_36 rfl (lv_at hl 3 rfl) ?_
      refine lv_iload_n X.1 X.2.1 dX6_way_37 rfl (lv_at hl 3 rfl) ?_
      refine lv_aload_n X.1 X.2.1 dX6_way_38 rfl (lv_at hl 0 rfl) ?_
      refine g_get X hP 0 6 6 (v := .int mo_person) rfl rfl inX6 (by decide) fl_X6_100 rfl dX6_way_39 ?_
      refine lv_icmp_ne (tgt := 49) X.1 X.2.1 dX6_way_42 (by decide) (fun hc => ?_) (fun hc => ?_)
      · replace h := Eq.mp (if_neg hc) h
        refine lv_iconst (v := (-1 : Int32)) X.1 X.2.1 dX6_way_49 (by decide) ?_
        obtain ⟨hin, h⟩ := h
        refine g_ist X hP hD hS 1 rfl hin dX6_way_50 (fun aFA_1 e_aFA_1 H locs hP hD hS => ?_)
        replace h := h aFA_1 e_aFA_1
        replace hP : va_P G.1 gCl [cMO hMO mo_thrown mo_size hTM mo_isBoard mo_width mo_height mo_person mo_moves mo_pushes mo_floor mo_goals mo_boxes mo_newFloor mo_newGoals mo_newBoxes mo_newPerson mo_newWidth mo_kept hDO mo_many mo_taken mo_length hXB hXC hXF hXY hXS hXP hFA hLE, cI G hFA 64 aFA_1] H := hP
        replace hD : va_D A [cMO hMO mo_thrown mo_size hTM mo_isBoard mo_width mo_height mo_person mo_moves mo_pushes mo_floor mo_goals mo_boxes mo_newFloor mo_newGoals mo_newBoxes mo_newPerson mo_newWidth mo_kept hDO mo_many mo_taken mo_length hXB hXC hXF hXY hXS hXP hFA hLE, cI G hFA 64 aFA_1] := hD
        refine lv_iinc (v := (v3 + (1 : Int32))) (lv' := [(3, .int (v3 + (1 : Int32))), (0, .ref hMO), (1, .int v1), (2, .int v2)]) X.1 X.2.1 dX6_way_51 hl (k := 3) rfl rfl (by decide) rfl (fun ls hl => ?_)
        refine lv_goto (tgt := 26) X.1 X.2.1 dX6_way_54 (by decide) ?_
        exact ih mo_thrown aFA_1 v1 v2 (v3 + (1 : Int32)) _ _ _ h hP hD hS (lv_sub hl [1, 2, 3, 0] rfl)
      · replace h := Eq.mp (if_pos hc) h
        refine lv_iconst (v := (0 : Int32)) X.1 X.2.1 dX6_way_45 (by decide) ?_
        refine lv_goto (tgt := 50) X.1 X.2.1 dX6_way_46 (by decide) ?_
        obtain ⟨hin, h⟩ := h
        refine g_ist X hP hD hS 1 rfl hin dX6_way_50 (fun aFA_2 e_aFA_2 H locs hP hD hS => ?_)
        replace h := h aFA_2 e_aFA_2
        replace hP : va_P G.1 gCl [cMO hMO mo_thrown mo_size hTM mo_isBoard mo_width mo_height mo_person mo_moves mo_pushes mo_floor mo_goals mo_boxes mo_newFloor mo_newGoals mo_newBoxes mo_newPerson mo_newWidth mo_kept hDO mo_many mo_taken mo_length hXB hXC hXF hXY hXS hXP hFA hLE, cI G hFA 64 aFA_2] H := hP
        replace hD : va_D A [cMO hMO mo_thrown mo_size hTM mo_isBoard mo_width mo_height mo_person mo_moves mo_pushes mo_floor mo_goals mo_boxes mo_newFloor mo_newGoals mo_newBoxes mo_newPerson mo_newWidth mo_kept hDO mo_many mo_taken mo_length hXB hXC hXF hXY hXS hXP hFA hLE, cI G hFA 64 aFA_2] := hD
        refine lv_iinc (v := (v3 + (1 : Int32))) (lv' := [(3, .int (v3 + (1 : Int32))), (0, .ref hMO), (1, .int v1), (2, .int v2)]) X.1 X.2.1 dX6_way_51 hl (k := 3) rfl rfl (by decide) rfl (fun ls hl => ?_)
        refine lv_goto (tgt := 26) X.1 X.2.1 dX6_way_54 (by decide) ?_
        exact ih mo_thrown aFA_2 v1 v2 (v3 + (1 : Int32)) _ _ _ h hP hD hS (lv_sub hl [1, 2, 3, 0] rfl)
set_option maxHeartbeats 4000000 in
set_option maxRecDepth 100000 in
theorem s_MO_way_16 {p : Program} {l : Launch} {e : Env} {s : State} {m : MethodId} {args : Array Value} {below : List Frame} {meth : Method} {c : Code} {G : gEnv} {A : Nat → Prop} {hMO : Nat} {hTM : Nat} {hDO : Nat} {hXB : Nat} {hXC : Nat} {hXF : Nat} {hXY : Nat} {hXS : Nat} {hXP : Nat} {hFA : Nat} {hLE : Nat} {mo_size : Int32} {mo_isBoard : Int32} {mo_moves : Int32} {mo_pushes : Int32} {mo_goals : Int64} {mo_newFloor : Int64} {mo_newGoals : Int64} {mo_newBoxes : Int64} {mo_newPerson : Int32} {mo_newWidth : Int32} {mo_kept : Int32} {mo_many : Int32} {mo_taken : Int32} {mo_length : Int32} {mo_width : Int32} {mo_height : Int32} {mo_person : Int32} {mo_floor : Int64} {mo_boxes : Int64} {post : Int32 → Int32 → (Nat → Int32) → Prop} (X : gX p m meth c cX6_way 6 RX6 (some .int) s args G A)  : ∀ (mo_thrown : Int32) (aFA : (Nat → Int32)) (v1 : Int32) (v2 : Int32) (t1 : Int32) (t2 : Int32) (H : Heap) (locs : List Loc) (ls : Array Slot), MO_way_16 mo_width mo_height mo_person mo_floor mo_boxes post mo_thrown aFA v1 v2 t1 t2 → va_P G.1 gCl [cMO hMO mo_thrown mo_size hTM mo_isBoard mo_width mo_height mo_person mo_moves mo_pushes mo_floor mo_goals mo_boxes mo_newFloor mo_newGoals mo_newBoxes mo_newPerson mo_newWidth mo_kept hDO mo_many mo_taken mo_length hXB hXC hXF hXY hXS hXP hFA hLE, cI G hFA 64 aFA] H → va_D A [cMO hMO mo_thrown mo_size hTM mo_isBoard mo_width mo_height mo_person mo_moves mo_pushes mo_floor mo_goals mo_boxes mo_newFloor mo_newGoals mo_newBoxes mo_newPerson mo_newWidth mo_kept hDO mo_many mo_taken mo_length hXB hXC hXF hXY hXS hXP hFA hLE, cI G hFA 64 aFA] → va_S A s.heap H locs → lv_has ls 6 [(0, .ref hMO), (1, .int v1), (2, .int v2)] → W p l e rm_MO_way s m args below meth c H locs 0 0 (MQ below (gQi G (fun (r : Int32) (u : Int32 × (Nat → Int32)) => post r u.1 u.2) (fun (u : Int32 × (Nat → Int32)) => [cMO hMO u.1 mo_size hTM mo_isBoard mo_width mo_height mo_person mo_moves mo_pushes mo_floor mo_goals mo_boxes mo_newFloor mo_newGoals mo_newBoxes mo_newPerson mo_newWidth mo_kept hDO mo_many mo_taken mo_length hXB hXC hXF hXY hXS hXP hFA hLE, cI G hFA 64 u.2]) A) args s 0 0 A) (F0 m 16 ls [.int t2, .int t1, .ref hMO]) := by
  intro mo_thrown aFA v1 v2 t1 t2 H locs ls h hP hD hS hl
  unfold MO_way_16 at h
  refine g_ci (wr := [cI G hFA 64 aFA]) X [0] [1] (g_rV (As := [.int t1, .int t2]) (rest := []) X (c_MO_throwsIf l G hMO hTM hDO hXB hXC hXF hXY hXS hXP hFA hLE mo_thrown mo_size mo_isBoard mo_width mo_height mo_person mo_moves mo_pushes mo_floor mo_goals mo_boxes mo_newFloor mo_newGoals mo_newBoxes mo_newPerson mo_newWidth mo_kept mo_many mo_taken mo_length t1 t2 _ h _) lk_X6_118 rfl rfl ⟨Nat.le_of_ble_eq_true rfl, Nat.le_of_ble_eq_true rfl⟩ hP hD hS [0] rfl rfl 0 6 rfl rfl rfl hl.1 rfl (Nat.le_of_ble_eq_true rfl) dX6_way_16 ⟨Nat.le_of_ble_eq_true rfl, Nat.le_of_ble_eq_true rfl⟩) hP hD hS rfl rfl rfl (by decide) (fun r_1 u H locs h hP hD hS => ?_)
  obtain ⟨mo_thrown_2, rfl⟩ : ∃ z, z = u := ⟨_, rfl⟩
  try dsimp only at h
  replace hP := hP.sub (ws' := [cMO hMO mo_thrown_2 mo_size hTM mo_isBoard mo_width mo_height mo_person mo_moves mo_pushes mo_floor mo_goals mo_boxes mo_newFloor mo_newGoals mo_newBoxes mo_newPerson mo_newWidth mo_kept hDO mo_many mo_taken mo_length hXB hXC hXF hXY hXS hXP hFA hLE, cI G hFA 64 aFA]) [1, 0] rfl
  replace hD := hD.sub (ws' := [cMO hMO mo_thrown_2 mo_size hTM mo_isBoard mo_width mo_height mo_person mo_moves mo_pushes mo_floor mo_goals mo_boxes mo_newFloor mo_newGoals mo_newBoxes mo_newPerson mo_newWidth mo_kept hDO mo_many mo_taken mo_length hXB hXC hXF hXY hXS hXP hFA hLE, cI G hFA 64 aFA]) [1, 0] rfl rfl
  refine lv_if_eq (tgt := 24) X.1 X.2.1 dX6_way_19 (by decide) (fun hc => ?_) (fun hc => ?_)
  · replace h := Eq.mp (if_pos hc) h
    refine lv_iconst (v := (0 : Int32)) X.1 X.2.1 dX6_way_24 (by decide) ?_
    refine lv_istore_n (lv' := [(3, .int (0 : Int32)), (0, .ref hMO), (1, .int v1), (2, .int v2)]) X.1 X.2.1 dX6_way_25 rfl hl (by decide) rfl (fun ls hl => ?_)
    obtain ⟨n', h⟩ := h
    exact s_MO_way_26 X  n' mo_thrown_2 aFA v1 v2 (0 : Int32) _ _ _ h hP hD hS (lv_sub hl [1, 2, 3, 0] rfl)
  · replace h := Eq.mp (if_neg hc) h
    refine lv_iconst (v := (0 : Int32)) X.1 X.2.1 dX6_way_22 (by decide) ?_
    exact g_iret X (mo_thrown_2, aFA) h hP hD hS dX6_way_23
set_option maxHeartbeats 4000000 in
set_option maxRecDepth 100000 in
theorem c_MO_way (l : Launch) (G : gEnv) (hMO : Nat) (hTM : Nat) (hDO : Nat) (hXB : Nat) (hXC : Nat) (hXF : Nat) (hXY : Nat) (hXS : Nat) (hXP : Nat) (hFA : Nat) (hLE : Nat) (mo_thrown : Int32) (mo_size : Int32) (mo_isBoard : Int32) (mo_width : Int32) (mo_height : Int32) (mo_person : Int32) (mo_moves : Int32) (mo_pushes : Int32) (mo_floor : Int64) (mo_goals : Int64) (mo_boxes : Int64) (mo_newFloor : Int64) (mo_newGoals : Int64) (mo_newBoxes : Int64) (mo_newPerson : Int32) (mo_newWidth : Int32) (mo_kept : Int32) (mo_many : Int32) (mo_taken : Int32) (mo_length : Int32) (aFA : Nat → Int32) (v1 : Int32) (v2 : Int32) (post : Int32 → Int32 → (Nat → Int32) → Prop) (h : MO_way mo_width mo_height mo_person mo_floor mo_boxes mo_thrown aFA v1 v2 post) (sz : Nat) : Met l yX6_way (Cond.code yX6_way cX6_way 6 (some .int) :: wAll) (rm_MO_way) (gPc G [.ref hMO, .int v1, .int v2] [cMO hMO mo_thrown mo_size hTM mo_isBoard mo_width mo_height mo_person mo_moves mo_pushes mo_floor mo_goals mo_boxes mo_newFloor mo_newGoals mo_newBoxes mo_newPerson mo_newWidth mo_kept hDO mo_many mo_taken mo_length hXB hXC hXF hXY hXS hXP hFA hLE, cI G hFA 64 aFA] sz) (gQi G (fun (r : Int32) (u : Int32 × (Nat → Int32)) => post r u.1 u.2) (fun (u : Int32 × (Nat → Int32)) => [cMO hMO u.1 mo_size hTM mo_isBoard mo_width mo_height mo_person mo_moves mo_pushes mo_floor mo_goals mo_boxes mo_newFloor mo_newGoals mo_newBoxes mo_newPerson mo_newWidth mo_kept hDO mo_many mo_taken mo_length hXB hXC hXF hXY hXS hXP hFA hLE, cI G hFA 64 u.2]) (va_A [cMO hMO mo_thrown mo_size hTM mo_isBoard mo_width mo_height mo_person mo_moves mo_pushes mo_floor mo_goals mo_boxes mo_newFloor mo_newGoals mo_newBoxes mo_newPerson mo_newWidth mo_kept hDO mo_many mo_taken mo_length hXB hXC hXF hXY hXS hXP hFA hLE, cI G hFA 64 aFA] sz)) 0 0 (va_A [cMO hMO mo_thrown mo_size hTM mo_isBoard mo_width mo_height mo_person mo_moves mo_pushes mo_floor mo_goals mo_boxes mo_newFloor mo_newGoals mo_newBoxes mo_newPerson mo_newWidth mo_kept hDO mo_many mo_taken mo_length hXB hXC hXF hXY hXS hXP hFA hLE, cI G hFA 64 aFA] sz) := by
  refine Met.ofW (cc := cX6_way) (maxL := 6) (ret := (some .int)) (by decide) rfl ?_
  intro p e s m args below meth c s₁ B hml hv
  obtain ⟨rfl, hsz, hP, hK, hD0⟩ := hv
  subst hsz
  have X := gX.ofB (ws := [cMO hMO mo_thrown mo_size hTM mo_isBoard mo_width mo_height mo_person mo_moves mo_pushes mo_floor mo_goals mo_boxes mo_newFloor mo_newGoals mo_newBoxes mo_newPerson mo_newWidth mo_kept hDO mo_many mo_taken mo_length hXB hXC hXF hXY hXS hXP hFA hLE, cI G hFA 64 aFA]) B hml hK hD0
  have hD := hD0.self (sz := s.heap.size)
  generalize hAe : va_A [cMO hMO mo_thrown mo_size hTM mo_isBoard mo_width mo_height mo_person mo_moves mo_pushes mo_floor mo_goals mo_boxes mo_newFloor mo_newGoals mo_newBoxes mo_newPerson mo_newWidth mo_kept hDO mo_many mo_taken mo_length hXB hXC hXF hXY hXS hXP hFA hLE, cI G hFA 64 aFA] s.heap.size = A at X hD ⊢
  have hS : va_S A s.heap s.heap [] := va_S.rf
  have hl := lv_entry ([.ref hMO, .int v1, .int v2]) (n := 6) (Nat.le_of_ble_eq_true rfl)
  rw [lg_entry_eq]
  generalize (lg_sl ([.ref hMO, .int v1, .int v2]) ++ List.replicate (6 - (lg_sl ([.ref hMO, .int v1, .int v2])).length) Slot.unset).toArray = ls at hl ⊢
  have hl : lv_has ls 6 [(0, .ref hMO), (1, .int v1), (2, .int v2)] := hl
  dsimp only [headSpec]
  unfold MO_way at h
  refine lv_aload_n X.1 X.2.1 dX6_way_0 rfl (lv_at hl 0 rfl) ?_
  refine lv_iconst (v := (1 : Int32)) X.1 X.2.1 dX6_way_1 (by decide) ?_
  refine lv_aload_n X.1 X.2.1 dX6_way_2 rfl (lv_at hl 0 rfl) ?_
  refine lv_iload_n X.1 X.2.1 dX6_way_3 rfl (lv_at hl 1 rfl) ?_
  refine lv_iload_n X.1 X.2.1 dX6_way_4 rfl (lv_at hl 2 rfl) ?_
  refine g_ci (wr := [cI G hFA 64 aFA]) X [0] [1] (g_rV (As := [.int v1, .int v2]) (rest := [.int (1 : Int32), .ref hMO]) X (c_MO_isCell l G hMO hTM hDO hXB hXC hXF hXY hXS hXP hFA hLE mo_thrown mo_size mo_isBoard mo_width mo_height mo_person mo_moves mo_pushes mo_floor mo_goals mo_boxes mo_newFloor mo_newGoals mo_newBoxes mo_newPerson mo_newWidth mo_kept mo_many mo_taken mo_length v1 v2 _ h _) lk_X6_52 rfl rfl ⟨Nat.le_of_ble_eq_true rfl, Nat.le_of_ble_eq_true rfl⟩ hP hD hS [0] rfl rfl 0 6 rfl rfl rfl hl.1 rfl (Nat.le_of_ble_eq_true rfl) dX6_way_5 ⟨Nat.le_of_ble_eq_true rfl, Nat.le_of_ble_eq_true rfl⟩) hP hD hS rfl rfl rfl (by decide) (fun r_1 u H locs h hP hD hS => ?_)
  try dsimp only at h
  replace hP := hP.sub (ws' := [cMO hMO mo_thrown mo_size hTM mo_isBoard mo_width mo_height mo_person mo_moves mo_pushes mo_floor mo_goals mo_boxes mo_newFloor mo_newGoals mo_newBoxes mo_newPerson mo_newWidth mo_kept hDO mo_many mo_taken mo_length hXB hXC hXF hXY hXS hXP hFA hLE, cI G hFA 64 aFA]) [1, 0] rfl
  replace hD := hD.sub (ws' := [cMO hMO mo_thrown mo_size hTM mo_isBoard mo_width mo_height mo_person mo_moves mo_pushes mo_floor mo_goals mo_boxes mo_newFloor mo_newGoals mo_newBoxes mo_newPerson mo_newWidth mo_kept hDO mo_many mo_taken mo_length hXB hXC hXF hXY hXS hXP hFA hLE, cI G hFA 64 aFA]) [1, 0] rfl rfl
  refine lv_if_ne (tgt := 15) X.1 X.2.1 dX6_way_8 (by decide) (fun hc => ?_) (fun hc => ?_)
  · replace h := Eq.mp (if_neg hc) h
    refine lv_iconst (v := (0 : Int32)) X.1 X.2.1 dX6_way_15 (by decide) ?_
    exact s_MO_way_16 X  mo_thrown aFA v1 v2 (1 : Int32) (0 : Int32) _ _ _ h hP hD hS (lv_sub hl [0, 1, 2] rfl)
  · replace h := Eq.mp (if_pos hc) h
    refine lv_iconst (v := (1 : Int32)) X.1 X.2.1 dX6_way_11 (by decide) ?_
    refine lv_goto (tgt := 16) X.1 X.2.1 dX6_way_12 (by decide) ?_
    exact s_MO_way_16 X  mo_thrown aFA v1 v2 (1 : Int32) (1 : Int32) _ _ _ h hP hD hS (lv_sub hl [0, 1, 2] rfl)
abbrev rm_MO_live : Room := { frames := 2, cells := 0, slots := 0, locals := 46 }
set_option maxHeartbeats 4000000 in
set_option maxRecDepth 100000 in
theorem s_MO_live_52 {p : Program} {l : Launch} {e : Env} {s : State} {m : MethodId} {args : Array Value} {below : List Frame} {meth : Method} {c : Code} {G : gEnv} {A : Nat → Prop} {hMO : Nat} {hTM : Nat} {hDO : Nat} {hXB : Nat} {hXC : Nat} {hXF : Nat} {hXY : Nat} {hXS : Nat} {hXP : Nat} {hFA : Nat} {hLE : Nat} {mo_thrown : Int32} {mo_size : Int32} {mo_isBoard : Int32} {mo_person : Int32} {mo_moves : Int32} {mo_pushes : Int32} {mo_boxes : Int64} {mo_newFloor : Int64} {mo_newGoals : Int64} {mo_newBoxes : Int64} {mo_newPerson : Int32} {mo_newWidth : Int32} {mo_kept : Int32} {mo_many : Int32} {mo_taken : Int32} {mo_length : Int32} {mo_width : Int32} {mo_height : Int32} {mo_floor : Int64} {mo_goals : Int64} {k18 : Int64 → Int64 → Int32 → Prop} {post : Int64 → Prop} (X : gX p m meth c cX6_live 7 RX6 (some .long) s args G A) (hk18 : ∀ (v1' : Int64) (v3' : Int64) (v5' : Int32) (H : Heap) (locs : List Loc) (ls : Array Slot), k18 v1' v3' v5' → va_P G.1 gCl [cMO hMO mo_thrown mo_size hTM mo_isBoard mo_width mo_height mo_person mo_moves mo_pushes mo_floor mo_goals mo_boxes mo_newFloor mo_newGoals mo_newBoxes mo_newPerson mo_newWidth mo_kept hDO mo_many mo_taken mo_length hXB hXC hXF hXY hXS hXP hFA hLE] H → va_D A [cMO hMO mo_thrown mo_size hTM mo_isBoard mo_width mo_height mo_person mo_moves mo_pushes mo_floor mo_goals mo_boxes mo_newFloor mo_newGoals mo_newBoxes mo_newPerson mo_newWidth mo_kept hDO mo_many mo_taken mo_length hXB hXC hXF hXY hXS hXP hFA hLE] → va_S A s.heap H locs → lv_has ls 7 [(0, .ref hMO), (1, .long v1'), (3, .long v3'), (5, .int v5')] → W p l e rm_MO_live s m args below meth c H locs 0 0 (MQ below (gQl G (fun (r : Int64) (u : Unit) => post r ) (fun (u : Unit) => [cMO hMO mo_thrown mo_size hTM mo_isBoard mo_width mo_height mo_person mo_moves mo_pushes mo_floor mo_goals mo_boxes mo_newFloor mo_newGoals mo_newBoxes mo_newPerson mo_newWidth mo_kept hDO mo_many mo_taken mo_length hXB hXC hXF hXY hXS hXP hFA hLE]) A) args s 0 0 A) (F0 m 18 ls [])) : ∀ (n : Nat) (v1 : Int64) (v3 : Int64) (v5 : Int32) (v6 : Int32) (H : Heap) (locs : List Loc) (ls : Array Slot), MO_live_52 mo_width mo_height mo_floor mo_goals k18 post n v1 v3 v5 v6 → va_P G.1 gCl [cMO hMO mo_thrown mo_size hTM mo_isBoard mo_width mo_height mo_person mo_moves mo_pushes mo_floor mo_goals mo_boxes mo_newFloor mo_newGoals mo_newBoxes mo_newPerson mo_newWidth mo_kept hDO mo_many mo_taken mo_length hXB hXC hXF hXY hXS hXP hFA hLE] H → va_D A [cMO hMO mo_thrown mo_size hTM mo_isBoard mo_width mo_height mo_person mo_moves mo_pushes mo_floor mo_goals mo_boxes mo_newFloor mo_newGoals mo_newBoxes mo_newPerson mo_newWidth mo_kept hDO mo_many mo_taken mo_length hXB hXC hXF hXY hXS hXP hFA hLE] → va_S A s.heap H locs → lv_has ls 7 [(0, .ref hMO), (1, .long v1), (3, .long v3), (5, .int v5), (6, .int v6)] → W p l e rm_MO_live s m args below meth c H locs 0 0 (MQ below (gQl G (fun (r : Int64) (u : Unit) => post r ) (fun (u : Unit) => [cMO hMO mo_thrown mo_size hTM mo_isBoard mo_width mo_height mo_person mo_moves mo_pushes mo_floor mo_goals mo_boxes mo_newFloor mo_newGoals mo_newBoxes mo_newPerson mo_newWidth mo_kept hDO mo_many mo_taken mo_length hXB hXC hXF hXY hXS hXP hFA hLE]) A) args s 0 0 A) (F0 m 52 ls []) := by
  intro n
  induction n with
  | zero => intro v1 v3 v5 v6 H locs ls h _ _ _ _; exact h.elim
  | succ n ih =>
    intro v1 v3 v5 v6 H locs ls h hP hD hS hl
    unfold MO_live_52 at h
    refine lv_iload X.1 X.2.1 dX6_live_52 (lv_at hl 4 rfl) ?_
    refine lv_iconst (v := (4 : Int32)) X.1 X.2.1 dX6_live_54 (by decide) ?_
    refine lv_icmp_ge (tgt := 108) X.1 X.2.1 dX6_live_55 (by decide) (fun hc => ?_) (fun hc => ?_)
    · replace h := Eq.mp (if_pos hc) h
      refine lv_iinc (v := (v5 + (1 : Int32))) (lv' := [(5, .int (v5 + (1 : Int32))), (0, .ref hMO), (1, .long v1), (3, .long v3), (6, .int v6)]) X.1 X.2.1 dX6_live_108 hl (k := 3) rfl rfl (by decide) rfl (fun ls hl => ?_)
      refine lv_goto (tgt := 18) X.1 X.2.1 dX6_live_111 (by decide) ?_
      exact hk18 v1 v3 (v5 + (1 : Int32)) _ _ _ h hP hD hS (lv_sub hl [1, 2, 3, 0] rfl)
    · replace h := Eq.mp (if_neg hc) h
      refine lv_lload_n X.1 X.2.1 dX6_live_58 rfl (lv_at hl 1 rfl) ?_
      refine lv_aload_n X.1 X.2.1 dX6_live_59 rfl (lv_at hl 0 rfl) ?_
      refine lv_iload X.1 X.2.1 dX6_live_60 (lv_at hl 3 rfl) ?_
      refine lv_iload X.1 X.2.1 dX6_live_62 (lv_at hl 4 rfl) ?_
      refine g_ci (wr := []) X [0] [] (g_rV (As := [.int v5, .int v6]) (rest := [.long v1]) X (c_MO_beside l G hMO hTM hDO hXB hXC hXF hXY hXS hXP hFA hLE mo_thrown mo_size mo_isBoard mo_width mo_height mo_person mo_moves mo_pushes mo_floor mo_goals mo_boxes mo_newFloor mo_newGoals mo_newBoxes mo_newPerson mo_newWidth mo_kept mo_many mo_taken mo_length v5 v6 _ h _) lk_X6_112 rfl rfl ⟨Nat.le_of_ble_eq_true rfl, Nat.le_of_ble_eq_true rfl⟩ hP hD hS [0] rfl rfl 0 6 rfl rfl rfl hl.1 rfl (Nat.le_of_ble_eq_true rfl) dX6_live_64 ⟨Nat.le_of_ble_eq_true rfl, Nat.le_of_ble_eq_true rfl⟩) hP hD hS rfl rfl rfl (by decide) (fun r_1 u H locs h hP hD hS => ?_)
      try dsimp only at h
      replace hP := hP.sub (ws' := [cMO hMO mo_thrown mo_size hTM mo_isBoard mo_width mo_height mo_person mo_moves mo_pushes mo_floor mo_goals mo_boxes mo_newFloor mo_newGoals mo_newBoxes mo_newPerson mo_newWidth mo_kept hDO mo_many mo_taken mo_length hXB hXC hXF hXY hXS hXP hFA hLE]) [0] rfl
      replace hD := hD.sub (ws' := [cMO hMO mo_thrown mo_size hTM mo_isBoard mo_width mo_height mo_person mo_moves mo_pushes mo_floor mo_goals mo_boxes mo_newFloor mo_newGoals mo_newBoxes mo_newPerson mo_newWidth mo_kept hDO mo_many mo_taken mo_length hXB hXC hXF hXY hXS hXP hFA hLE]) [0] rfl rfl
      refine g_ci (wr := [cMO hMO mo_thrown mo_size hTM mo_isBoard mo_width mo_height mo_person mo_moves mo_pushes mo_floor mo_goals mo_boxes mo_newFloor mo_newGoals mo_newBoxes mo_newPerson mo_newWidth mo_kept hDO mo_many mo_taken mo_length hXB hXC hXF hXY hXS hXP hFA hLE]) X [] [0] (g_rS (As := [.long v1, .int r_1]) (rest := []) X (c_MO_has l G v1 r_1 _ h _) lk_X6_90 rfl rfl ⟨Nat.le_of_ble_eq_true rfl, Nat.le_of_ble_eq_true rfl⟩ hP hD hS [] rfl rfl rfl hl.1 rfl (Nat.le_of_ble_eq_true rfl) dX6_live_67 ⟨Nat.le_of_ble_eq_true rfl, Nat.le_of_ble_eq_true rfl⟩) hP hD hS rfl rfl rfl (by decide) (fun r_2 u H locs h hP hD hS => ?_)
      try dsimp only at h
      replace hP := hP.sub (ws' := [cMO hMO mo_thrown mo_size hTM mo_isBoard mo_width mo_height mo_person mo_moves mo_pushes mo_floor mo_goals mo_boxes mo_newFloor mo_newGoals mo_newBoxes mo_newPerson mo_newWidth mo_kept hDO mo_many mo_taken mo_length hXB hXC hXF hXY hXS hXP hFA hLE]) [0] rfl
      replace hD := hD.sub (ws' := [cMO hMO mo_thrown mo_size hTM mo_isBoard mo_width mo_height mo_person mo_moves mo_pushes mo_floor mo_goals mo_boxes mo_newFloor mo_newGoals mo_newBoxes mo_newPerson mo_newWidth mo_kept hDO mo_many mo_taken mo_length hXB hXC hXF hXY hXS hXP hFA hLE]) [0] rfl rfl
      refine lv_if_eq (tgt := 102) X.1 X.2.1 dX6_live_70 (by decide) (fun hc => ?_) (fun hc => ?_)
      · replace h := Eq.mp (if_pos hc) h
        refine lv_iinc (v := (v6 + (1 : Int32))) (lv' := [(6, .int (v6 + (1 : Int32))), (0, .ref hMO), (1, .long v1), (3, .long v3), (5, .int v5)]) X.1 X.2.1 dX6_live_102 hl (k := 4) rfl rfl (by decide) rfl (fun ls hl => ?_)
        refine lv_goto (tgt := 52) X.1 X.2.1 dX6_live_105 (by decide) ?_
        exact ih v1 v3 v5 (v6 + (1 : Int32)) _ _ _ h hP hD hS (lv_sub hl [1, 2, 3, 4, 0] rfl)
      · replace h := Eq.mp (if_neg hc) h
        refine lv_aload_n X.1 X.2.1 dX6_live_73 rfl (lv_at hl 0 rfl) ?_
        refine g_get X hP 0 6 9 (v := .long mo_floor) rfl rfl inX6 (by decide) fl_X6_87 rfl dX6_live_74 ?_
        refine lv_aload_n X.1 X.2.1 dX6_live_77 rfl (lv_at hl 0 rfl) ?_
        refine lv_iload X.1 X.2.1 dX6_live_78 (lv_at hl 3 rfl) ?_
        refine lv_aload_n X.1 X.2.1 dX6_live_80 rfl (lv_at hl 0 rfl) ?_
        refine lv_iload X.1 X.2.1 dX6_live_81 (lv_at hl 4 rfl) ?_
        refine g_ci (wr := []) X [0] [] (g_rV (As := [.int v6]) (rest := [.int v5, .ref hMO, .long mo_floor]) X (c_MO_against l G hMO hTM hDO hXB hXC hXF hXY hXS hXP hFA hLE mo_thrown mo_size mo_isBoard mo_width mo_height mo_person mo_moves mo_pushes mo_floor mo_goals mo_boxes mo_newFloor mo_newGoals mo_newBoxes mo_newPerson mo_newWidth mo_kept mo_many mo_taken mo_length v6 _ h _) lk_X6_126 rfl rfl ⟨Nat.le_of_ble_eq_true rfl, Nat.le_of_ble_eq_true rfl⟩ hP hD hS [0] rfl rfl 0 6 rfl rfl rfl hl.1 rfl (Nat.le_of_ble_eq_true rfl) dX6_live_83 ⟨Nat.le_of_ble_eq_true rfl, Nat.le_of_ble_eq_true rfl⟩) hP hD hS rfl rfl rfl (by decide) (fun r_3 u H locs h hP hD hS => ?_)
        try dsimp only at h
        replace hP := hP.sub (ws' := [cMO hMO mo_thrown mo_size hTM mo_isBoard mo_width mo_height mo_person mo_moves mo_pushes mo_floor mo_goals mo_boxes mo_newFloor mo_newGoals mo_newBoxes mo_newPerson mo_newWidth mo_kept hDO mo_many mo_taken mo_length hXB hXC hXF hXY hXS hXP hFA hLE]) [0] rfl
        replace hD := hD.sub (ws' := [cMO hMO mo_thrown mo_size hTM mo_isBoard mo_width mo_height mo_person mo_moves mo_pushes mo_floor mo_goals mo_boxes mo_newFloor mo_newGoals mo_newBoxes mo_newPerson mo_newWidth mo_kept hDO mo_many mo_taken mo_length hXB hXC hXF hXY hXS hXP hFA hLE]) [0] rfl rfl
        refine g_ci (wr := []) X [0] [] (g_rV (As := [.int v5, .int r_3]) (rest := [.long mo_floor]) X (c_MO_beside l G hMO hTM hDO hXB hXC hXF hXY hXS hXP hFA hLE mo_thrown mo_size mo_isBoard mo_width mo_height mo_person mo_moves mo_pushes mo_floor mo_goals mo_boxes mo_newFloor mo_newGoals mo_newBoxes mo_newPerson mo_newWidth mo_kept mo_many mo_taken mo_length v5 r_3 _ h _) lk_X6_112 rfl rfl ⟨Nat.le_of_ble_eq_true rfl, Nat.le_of_ble_eq_true rfl⟩ hP hD hS [0] rfl rfl 0 6 rfl rfl rfl hl.1 rfl (Nat.le_of_ble_eq_true rfl) dX6_live_86 ⟨Nat.le_of_ble_eq_true rfl, Nat.le_of_ble_eq_true rfl⟩) hP hD hS rfl rfl rfl (by decide) (fun r_4 u H locs h hP hD hS => ?_)
        try dsimp only at h
        replace hP := hP.sub (ws' := [cMO hMO mo_thrown mo_size hTM mo_isBoard mo_width mo_height mo_person mo_moves mo_pushes mo_floor mo_goals mo_boxes mo_newFloor mo_newGoals mo_newBoxes mo_newPerson mo_newWidth mo_kept hDO mo_many mo_taken mo_length hXB hXC hXF hXY hXS hXP hFA hLE]) [0] rfl
        replace hD := hD.sub (ws' := [cMO hMO mo_thrown mo_size hTM mo_isBoard mo_width mo_height mo_person mo_moves mo_pushes mo_floor mo_goals mo_boxes mo_newFloor mo_newGoals mo_newBoxes mo_newPerson mo_newWidth mo_kept hDO mo_many mo_taken mo_length hXB hXC hXF hXY hXS hXP hFA hLE]) [0] rfl rfl
        refine g_ci (wr := [cMO hMO mo_thrown mo_size hTM mo_isBoard mo_width mo_height mo_person mo_moves mo_pushes mo_floor mo_goals mo_boxes mo_newFloor mo_newGoals mo_newBoxes mo_newPerson mo_newWidth mo_kept hDO mo_many mo_taken mo_length hXB hXC hXF hXY hXS hXP hFA hLE]) X [] [0] (g_rS (As := [.long mo_floor, .int r_4]) (rest := []) X (c_MO_has l G mo_floor r_4 _ h _) lk_X6_90 rfl rfl ⟨Nat.le_of_ble_eq_true rfl, Nat.le_of_ble_eq_true rfl⟩ hP hD hS [] rfl rfl rfl hl.1 rfl (Nat.le_of_ble_eq_true rfl) dX6_live_89 ⟨Nat.le_of_ble_eq_true rfl, Nat.le_of_ble_eq_true rfl⟩) hP hD hS rfl rfl rfl (by decide) (fun r_5 u H locs h hP hD hS => ?_)
        try dsimp only at h
        replace hP := hP.sub (ws' := [cMO hMO mo_thrown mo_size hTM mo_isBoard mo_width mo_height mo_person mo_moves mo_pushes mo_floor mo_goals mo_boxes mo_newFloor mo_newGoals mo_newBoxes mo_newPerson mo_newWidth mo_kept hDO mo_many mo_taken mo_length hXB hXC hXF hXY hXS hXP hFA hLE]) [0] rfl
        replace hD := hD.sub (ws' := [cMO hMO mo_thrown mo_size hTM mo_isBoard mo_width mo_height mo_person mo_moves mo_pushes mo_floor mo_goals mo_boxes mo_newFloor mo_newGoals mo_newBoxes mo_newPerson mo_newWidth mo_kept hDO mo_many mo_taken mo_length hXB hXC hXF hXY hXS hXP hFA hLE]) [0] rfl rfl
        refine lv_if_eq (tgt := 102) X.1 X.2.1 dX6_live_92 (by decide) (fun hc => ?_) (fun hc => ?_)
        · replace h := Eq.mp (if_pos hc) h
          refine lv_iinc (v := (v6 + (1 : Int32))) (lv' := [(6, .int (v6 + (1 : Int32))), (0, .ref hMO), (1, .long v1), (3, .long v3), (5, .int v5)]) X.1 X.2.1 dX6_live_102 hl (k := 4) rfl rfl (by decide) rfl (fun ls hl => ?_)
          refine lv_goto (tgt := 52) X.1 X.2.1 dX6_live_105 (by decide) ?_
          exact ih v1 v3 v5 (v6 + (1 : Int32)) _ _ _ h hP hD hS (lv_sub hl [1, 2, 3, 4, 0] rfl)
        · replace h := Eq.mp (if_neg hc) h
          refine lv_lload_n X.1 X.2.1 dX6_live_95 rfl (lv_at hl 1 rfl) ?_
          refine lv_lconst (v := (1 : Int64)) X.1 X.2.1 dX6_live_96 (by decide) ?_
          refine lv_iload X.1 X.2.1 dX6_live_97 (lv_at hl 3 rfl) ?_
          refine lv_lshl X.1 X.2.1 dX6_live_99 rfl ?_
          refine lv_lor X.1 X.2.1 dX6_live_100 ?_
          refine lv_topl (fun v1_6 e_v1_6 => ?_)
          replace h := h v1_6 e_v1_6
          refine lv_lstore_n (lv' := [(1, .long v1_6), (0, .ref hMO), (3, .long v3), (5, .int v5), (6, .int v6)]) X.1 X.2.1 dX6_live_101 rfl hl (by decide) rfl (fun ls hl => ?_)
          refine lv_iinc (v := (v6 + (1 : Int32))) (lv' := [(6, .int (v6 + (1 : Int32))), (1, .long v1_6), (0, .ref hMO), (3, .long v3), (5, .int v5)]) X.1 X.2.1 dX6_live_102 hl (k := 4) rfl rfl (by decide) rfl (fun ls hl => ?_)
          refine lv_goto (tgt := 52) X.1 X.2.1 dX6_live_105 (by decide) ?_
          exact ih v1_6 v3 v5 (v6 + (1 : Int32)) _ _ _ h hP hD hS (lv_sub hl [2, 1, 3, 4, 0] rfl)
set_option maxHeartbeats 4000000 in
set_option maxRecDepth 100000 in
theorem s_MO_live_18 {p : Program} {l : Launch} {e : Env} {s : State} {m : MethodId} {args : Array Value} {below : List Frame} {meth : Method} {c : Code} {G : gEnv} {A : Nat → Prop} {hMO : Nat} {hTM : Nat} {hDO : Nat} {hXB : Nat} {hXC : Nat} {hXF : Nat} {hXY : Nat} {hXS : Nat} {hXP : Nat} {hFA : Nat} {hLE : Nat} {mo_thrown : Int32} {mo_size : Int32} {mo_isBoard : Int32} {mo_person : Int32} {mo_moves : Int32} {mo_pushes : Int32} {mo_boxes : Int64} {mo_newFloor : Int64} {mo_newGoals : Int64} {mo_newBoxes : Int64} {mo_newPerson : Int32} {mo_newWidth : Int32} {mo_kept : Int32} {mo_many : Int32} {mo_taken : Int32} {mo_length : Int32} {mo_width : Int32} {mo_height : Int32} {mo_floor : Int64} {mo_goals : Int64} {k7 : Int64 → Int64 → Prop} {post : Int64 → Prop} (X : gX p m meth c cX6_live 7 RX6 (some .long) s args G A) (hk7 : ∀ (v1' : Int64) (v3' : Int64) (H : Heap) (locs : List Loc) (ls : Array Slot), k7 v1' v3' → va_P G.1 gCl [cMO hMO mo_thrown mo_size hTM mo_isBoard mo_width mo_height mo_person mo_moves mo_pushes mo_floor mo_goals mo_boxes mo_newFloor mo_newGoals mo_newBoxes mo_newPerson mo_newWidth mo_kept hDO mo_many mo_taken mo_length hXB hXC hXF hXY hXS hXP hFA hLE] H → va_D A [cMO hMO mo_thrown mo_size hTM mo_isBoard mo_width mo_height mo_person mo_moves mo_pushes mo_floor mo_goals mo_boxes mo_newFloor mo_newGoals mo_newBoxes mo_newPerson mo_newWidth mo_kept hDO mo_many mo_taken mo_length hXB hXC hXF hXY hXS hXP hFA hLE] → va_S A s.heap H locs → lv_has ls 7 [(0, .ref hMO), (1, .long v1'), (3, .long v3')] → W p l e rm_MO_live s m args below meth c H locs 0 0 (MQ below (gQl G (fun (r : Int64) (u : Unit) => post r ) (fun (u : Unit) => [cMO hMO mo_thrown mo_size hTM mo_isBoard mo_width mo_height mo_person mo_moves mo_pushes mo_floor mo_goals mo_boxes mo_newFloor mo_newGoals mo_newBoxes mo_newPerson mo_newWidth mo_kept hDO mo_many mo_taken mo_length hXB hXC hXF hXY hXS hXP hFA hLE]) A) args s 0 0 A) (F0 m 7 ls [])) : ∀ (n : Nat) (v1 : Int64) (v3 : Int64) (v5 : Int32) (H : Heap) (locs : List Loc) (ls : Array Slot), MO_live_18 mo_width mo_height mo_floor mo_goals k7 post n v1 v3 v5 → va_P G.1 gCl [cMO hMO mo_thrown mo_size hTM mo_isBoard mo_width mo_height mo_person mo_moves mo_pushes mo_floor mo_goals mo_boxes mo_newFloor mo_newGoals mo_newBoxes mo_newPerson mo_newWidth mo_kept hDO mo_many mo_taken mo_length hXB hXC hXF hXY hXS hXP hFA hLE] H → va_D A [cMO hMO mo_thrown mo_size hTM mo_isBoard mo_width mo_height mo_person mo_moves mo_pushes mo_floor mo_goals mo_boxes mo_newFloor mo_newGoals mo_newBoxes mo_newPerson mo_newWidth mo_kept hDO mo_many mo_taken mo_length hXB hXC hXF hXY hXS hXP hFA hLE] → va_S A s.heap H locs → lv_has ls 7 [(0, .ref hMO), (1, .long v1), (3, .long v3), (5, .int v5)] → W p l e rm_MO_live s m args below meth c H locs 0 0 (MQ below (gQl G (fun (r : Int64) (u : Unit) => post r ) (fun (u : Unit) => [cMO hMO mo_thrown mo_size hTM mo_isBoard mo_width mo_height mo_person mo_moves mo_pushes mo_floor mo_goals mo_boxes mo_newFloor mo_newGoals mo_newBoxes mo_newPerson mo_newWidth mo_kept hDO mo_many mo_taken mo_length hXB hXC hXF hXY hXS hXP hFA hLE]) A) args s 0 0 A) (F0 m 18 ls []) := by
  intro n
  induction n with
  | zero => intro v1 v3 v5 H locs ls h _ _ _ _; exact h.elim
  | succ n ih =>
    intro v1 v3 v5 H locs ls h hP hD hS hl
    unfold MO_live_18 at h
    refine lv_iload X.1 X.2.1 dX6_live_18 (lv_at hl 3 rfl) ?_
    refine lv_bipush (v := (64 : Int32)) X.1 X.2.1 dX6_live_20 (by decide) ?_
    refine lv_icmp_ge (tgt := 114) X.1 X.2.1 dX6_live_22 (by decide) (fun hc => ?_) (fun hc => ?_)
    · replace h := Eq.mp (if_pos hc) h
      refine lv_goto (tgt := 7) X.1 X.2.1 dX6_live_114 (by decide) ?_
      exact hk7 v1 v3 _ _ _ h hP hD hS (lv_sub hl [0, 1, 2] rfl)
    · replace h := Eq.mp (if_neg hc) h
      refine lv_aload_n X.1 X.2.1 dX6_live_25 rfl (lv_at hl 0 rfl) ?_
      refine g_get X hP 0 6 9 (v := .long mo_floor) rfl rfl inX6 (by decide) fl_X6_87 rfl dX6_live_26 ?_
      refine lv_iload X.1 X.2.1 dX6_live_29 (lv_at hl 3 rfl) ?_
      refine g_ci (wr := [cMO hMO mo_thrown mo_size hTM mo_isBoard mo_width mo_height mo_person mo_moves mo_pushes mo_floor mo_goals mo_boxes mo_newFloor mo_newGoals mo_newBoxes mo_newPerson mo_newWidth mo_kept hDO mo_many mo_taken mo_length hXB hXC hXF hXY hXS hXP hFA hLE]) X [] [0] (g_rS (As := [.long mo_floor, .int v5]) (rest := []) X (c_MO_has l G mo_floor v5 _ h _) lk_X6_90 rfl rfl ⟨Nat.le_of_ble_eq_true rfl, Nat.le_of_ble_eq_true rfl⟩ hP hD hS [] rfl rfl rfl hl.1 rfl (Nat.le_of_ble_eq_true rfl) dX6_live_31 ⟨Nat.le_of_ble_eq_true rfl, Nat.le_of_ble_eq_true rfl⟩) hP hD hS rfl rfl rfl (by decide) (fun r_1 u H locs h hP hD hS => ?_)
      try dsimp only at h
      replace hP := hP.sub (ws' := [cMO hMO mo_thrown mo_size hTM mo_isBoard mo_width mo_height mo_person mo_moves mo_pushes mo_floor mo_goals mo_boxes mo_newFloor mo_newGoals mo_newBoxes mo_newPerson mo_newWidth mo_kept hDO mo_many mo_taken mo_length hXB hXC hXF hXY hXS hXP hFA hLE]) [0] rfl
      replace hD := hD.sub (ws' := [cMO hMO mo_thrown mo_size hTM mo_isBoard mo_width mo_height mo_person mo_moves mo_pushes mo_floor mo_goals mo_boxes mo_newFloor mo_newGoals mo_newBoxes mo_newPerson mo_newWidth mo_kept hDO mo_many mo_taken mo_length hXB hXC hXF hXY hXS hXP hFA hLE]) [0] rfl rfl
      refine lv_if_eq (tgt := 108) X.1 X.2.1 dX6_live_34 (by decide) (fun hc => ?_) (fun hc => ?_)
      · replace h := Eq.mp (if_pos hc) h
        refine lv_iinc (v := (v5 + (1 : Int32))) (lv' := [(5, .int (v5 + (1 : Int32))), (0, .ref hMO), (1, .long v1), (3, .long v3)]) X.1 X.2.1 dX6_live_108 hl (k := 3) rfl rfl (by decide) rfl (fun ls hl => ?_)
        refine lv_goto (tgt := 18) X.1 X.2.1 dX6_live_111 (by decide) ?_
        exact ih v1 v3 (v5 + (1 : Int32)) _ _ _ h hP hD hS (lv_sub hl [1, 2, 3, 0] rfl)
      · replace h := Eq.mp (if_neg hc) h
        refine lv_lload_n X.1 X.2.1 dX6_live_37 rfl (lv_at hl 1 rfl) ?_
        refine lv_iload X.1 X.2.1 dX6_live_38 (lv_at hl 3 rfl) ?_
        refine g_ci (wr := [cMO hMO mo_thrown mo_size hTM mo_isBoard mo_width mo_height mo_person mo_moves mo_pushes mo_floor mo_goals mo_boxes mo_newFloor mo_newGoals mo_newBoxes mo_newPerson mo_newWidth mo_kept hDO mo_many mo_taken mo_length hXB hXC hXF hXY hXS hXP hFA hLE]) X [] [0] (g_rS (As := [.long v1, .int v5]) (rest := []) X (c_MO_has l G v1 v5 _ h _) lk_X6_90 rfl rfl ⟨Nat.le_of_ble_eq_true rfl, Nat.le_of_ble_eq_true rfl⟩ hP hD hS [] rfl rfl rfl hl.1 rfl (Nat.le_of_ble_eq_true rfl) dX6_live_40 ⟨Nat.le_of_ble_eq_true rfl, Nat.le_of_ble_eq_true rfl⟩) hP hD hS rfl rfl rfl (by decide) (fun r_2 u H locs h hP hD hS => ?_)
        try dsimp only at h
        replace hP := hP.sub (ws' := [cMO hMO mo_thrown mo_size hTM mo_isBoard mo_width mo_height mo_person mo_moves mo_pushes mo_floor mo_goals mo_boxes mo_newFloor mo_newGoals mo_newBoxes mo_newPerson mo_newWidth mo_kept hDO mo_many mo_taken mo_length hXB hXC hXF hXY hXS hXP hFA hLE]) [0] rfl
        replace hD := hD.sub (ws' := [cMO hMO mo_thrown mo_size hTM mo_isBoard mo_width mo_height mo_person mo_moves mo_pushes mo_floor mo_goals mo_boxes mo_newFloor mo_newGoals mo_newBoxes mo_newPerson mo_newWidth mo_kept hDO mo_many mo_taken mo_length hXB hXC hXF hXY hXS hXP hFA hLE]) [0] rfl rfl
        refine lv_if_eq (tgt := 49) X.1 X.2.1 dX6_live_43 (by decide) (fun hc => ?_) (fun hc => ?_)
        · replace h := Eq.mp (if_pos hc) h
          refine lv_iconst (v := (0 : Int32)) X.1 X.2.1 dX6_live_49 (by decide) ?_
          refine lv_istore (lv' := [(6, .int (0 : Int32)), (0, .ref hMO), (1, .long v1), (3, .long v3), (5, .int v5)]) X.1 X.2.1 dX6_live_50 hl (by decide) rfl (fun ls hl => ?_)
          obtain ⟨n', h⟩ := h
          exact s_MO_live_52 X (fun v1' v3' v5' H' locs' ls' h' hP' hD' hS' hl' => ih v1' v3' v5' H' locs' ls' h' hP' hD' hS' hl') n' v1 v3 v5 (0 : Int32) _ _ _ h hP hD hS (lv_sub hl [1, 2, 3, 4, 0] rfl)
        · replace h := Eq.mp (if_neg hc) h
          refine lv_goto (tgt := 108) X.1 X.2.1 dX6_live_46 (by decide) ?_
          refine lv_iinc (v := (v5 + (1 : Int32))) (lv' := [(5, .int (v5 + (1 : Int32))), (0, .ref hMO), (1, .long v1), (3, .long v3)]) X.1 X.2.1 dX6_live_108 hl (k := 3) rfl rfl (by decide) rfl (fun ls hl => ?_)
          refine lv_goto (tgt := 18) X.1 X.2.1 dX6_live_111 (by decide) ?_
          exact ih v1 v3 (v5 + (1 : Int32)) _ _ _ h hP hD hS (lv_sub hl [1, 2, 3, 0] rfl)
set_option maxHeartbeats 4000000 in
set_option maxRecDepth 100000 in
theorem s_MO_live_7 {p : Program} {l : Launch} {e : Env} {s : State} {m : MethodId} {args : Array Value} {below : List Frame} {meth : Method} {c : Code} {G : gEnv} {A : Nat → Prop} {hMO : Nat} {hTM : Nat} {hDO : Nat} {hXB : Nat} {hXC : Nat} {hXF : Nat} {hXY : Nat} {hXS : Nat} {hXP : Nat} {hFA : Nat} {hLE : Nat} {mo_thrown : Int32} {mo_size : Int32} {mo_isBoard : Int32} {mo_person : Int32} {mo_moves : Int32} {mo_pushes : Int32} {mo_boxes : Int64} {mo_newFloor : Int64} {mo_newGoals : Int64} {mo_newBoxes : Int64} {mo_newPerson : Int32} {mo_newWidth : Int32} {mo_kept : Int32} {mo_many : Int32} {mo_taken : Int32} {mo_length : Int32} {mo_width : Int32} {mo_height : Int32} {mo_floor : Int64} {mo_goals : Int64} {post : Int64 → Prop} (X : gX p m meth c cX6_live 7 RX6 (some .long) s args G A)  : ∀ (n : Nat) (v1 : Int64) (v3 : Int64) (H : Heap) (locs : List Loc) (ls : Array Slot), MO_live_7 mo_width mo_height mo_floor mo_goals post n v1 v3 → va_P G.1 gCl [cMO hMO mo_thrown mo_size hTM mo_isBoard mo_width mo_height mo_person mo_moves mo_pushes mo_floor mo_goals mo_boxes mo_newFloor mo_newGoals mo_newBoxes mo_newPerson mo_newWidth mo_kept hDO mo_many mo_taken mo_length hXB hXC hXF hXY hXS hXP hFA hLE] H → va_D A [cMO hMO mo_thrown mo_size hTM mo_isBoard mo_width mo_height mo_person mo_moves mo_pushes mo_floor mo_goals mo_boxes mo_newFloor mo_newGoals mo_newBoxes mo_newPerson mo_newWidth mo_kept hDO mo_many mo_taken mo_length hXB hXC hXF hXY hXS hXP hFA hLE] → va_S A s.heap H locs → lv_has ls 7 [(0, .ref hMO), (1, .long v1), (3, .long v3)] → W p l e rm_MO_live s m args below meth c H locs 0 0 (MQ below (gQl G (fun (r : Int64) (u : Unit) => post r ) (fun (u : Unit) => [cMO hMO mo_thrown mo_size hTM mo_isBoard mo_width mo_height mo_person mo_moves mo_pushes mo_floor mo_goals mo_boxes mo_newFloor mo_newGoals mo_newBoxes mo_newPerson mo_newWidth mo_kept hDO mo_many mo_taken mo_length hXB hXC hXF hXY hXS hXP hFA hLE]) A) args s 0 0 A) (F0 m 7 ls []) := by
  intro n
  induction n with
  | zero => intro v1 v3 H locs ls h _ _ _ _; exact h.elim
  | succ n ih =>
    intro v1 v3 H locs ls h hP hD hS hl
    unfold MO_live_7 at h
    refine lv_lload_n X.1 X.2.1 dX6_live_7 rfl (lv_at hl 1 rfl) ?_
    refine lv_lload_n X.1 X.2.1 dX6_live_8 rfl (lv_at hl 2 rfl) ?_
    refine g_lcmp_eq (tgt := 117) X dX6_live_9 dX6_live_10 (by decide) (fun hc => ?_) (fun hc => ?_)
    · replace h := Eq.mp (if_pos hc) h
      refine lv_lload_n X.1 X.2.1 dX6_live_117 rfl (lv_at hl 1 rfl) ?_
      exact g_lret X () h hP hD hS dX6_live_118
    · replace h := Eq.mp (if_neg hc) h
      refine lv_lload_n X.1 X.2.1 dX6_live_13 rfl (lv_at hl 1 rfl) ?_
      refine lv_lstore_n (lv' := [(3, .long v1), (0, .ref hMO), (1, .long v1)]) X.1 X.2.1 dX6_live_14 rfl hl (by decide) rfl (fun ls hl => ?_)
      refine lv_iconst (v := (0 : Int32)) X.1 X.2.1 dX6_live_15 (by decide) ?_
      refine lv_istore (lv' := [(5, .int (0 : Int32)), (3, .long v1), (0, .ref hMO), (1, .long v1)]) X.1 X.2.1 dX6_live_16 hl (by decide) rfl (fun ls hl => ?_)
      obtain ⟨n', h⟩ := h
      exact s_MO_live_18 X (fun v1' v3' H' locs' ls' h' hP' hD' hS' hl' => ih v1' v3' H' locs' ls' h' hP' hD' hS' hl') n' v1 v1 (0 : Int32) _ _ _ h hP hD hS (lv_sub hl [2, 3, 1, 0] rfl)
set_option maxHeartbeats 4000000 in
set_option maxRecDepth 100000 in
theorem c_MO_live (l : Launch) (G : gEnv) (hMO : Nat) (hTM : Nat) (hDO : Nat) (hXB : Nat) (hXC : Nat) (hXF : Nat) (hXY : Nat) (hXS : Nat) (hXP : Nat) (hFA : Nat) (hLE : Nat) (mo_thrown : Int32) (mo_size : Int32) (mo_isBoard : Int32) (mo_width : Int32) (mo_height : Int32) (mo_person : Int32) (mo_moves : Int32) (mo_pushes : Int32) (mo_floor : Int64) (mo_goals : Int64) (mo_boxes : Int64) (mo_newFloor : Int64) (mo_newGoals : Int64) (mo_newBoxes : Int64) (mo_newPerson : Int32) (mo_newWidth : Int32) (mo_kept : Int32) (mo_many : Int32) (mo_taken : Int32) (mo_length : Int32) (post : Int64 → Prop) (h : MO_live mo_width mo_height mo_floor mo_goals post) (sz : Nat) : Met l yX6_live (Cond.code yX6_live cX6_live 7 (some .long) :: wAll) (rm_MO_live) (gPc G [.ref hMO] [cMO hMO mo_thrown mo_size hTM mo_isBoard mo_width mo_height mo_person mo_moves mo_pushes mo_floor mo_goals mo_boxes mo_newFloor mo_newGoals mo_newBoxes mo_newPerson mo_newWidth mo_kept hDO mo_many mo_taken mo_length hXB hXC hXF hXY hXS hXP hFA hLE] sz) (gQl G (fun (r : Int64) (u : Unit) => post r ) (fun (u : Unit) => [cMO hMO mo_thrown mo_size hTM mo_isBoard mo_width mo_height mo_person mo_moves mo_pushes mo_floor mo_goals mo_boxes mo_newFloor mo_newGoals mo_newBoxes mo_newPerson mo_newWidth mo_kept hDO mo_many mo_taken mo_length hXB hXC hXF hXY hXS hXP hFA hLE]) (va_A [cMO hMO mo_thrown mo_size hTM mo_isBoard mo_width mo_height mo_person mo_moves mo_pushes mo_floor mo_goals mo_boxes mo_newFloor mo_newGoals mo_newBoxes mo_newPerson mo_newWidth mo_kept hDO mo_many mo_taken mo_length hXB hXC hXF hXY hXS hXP hFA hLE] sz)) 0 0 (va_A [cMO hMO mo_thrown mo_size hTM mo_isBoard mo_width mo_height mo_person mo_moves mo_pushes mo_floor mo_goals mo_boxes mo_newFloor mo_newGoals mo_newBoxes mo_newPerson mo_newWidth mo_kept hDO mo_many mo_taken mo_length hXB hXC hXF hXY hXS hXP hFA hLE] sz) := by
  refine Met.ofW (cc := cX6_live) (maxL := 7) (ret := (some .long)) (by decide) rfl ?_
  intro p e s m args below meth c s₁ B hml hv
  obtain ⟨rfl, hsz, hP, hK, hD0⟩ := hv
  subst hsz
  have X := gX.ofB (ws := [cMO hMO mo_thrown mo_size hTM mo_isBoard mo_width mo_height mo_person mo_moves mo_pushes mo_floor mo_goals mo_boxes mo_newFloor mo_newGoals mo_newBoxes mo_newPerson mo_newWidth mo_kept hDO mo_many mo_taken mo_length hXB hXC hXF hXY hXS hXP hFA hLE]) B hml hK hD0
  have hD := hD0.self (sz := s.heap.size)
  generalize hAe : va_A [cMO hMO mo_thrown mo_size hTM mo_isBoard mo_width mo_height mo_person mo_moves mo_pushes mo_floor mo_goals mo_boxes mo_newFloor mo_newGoals mo_newBoxes mo_newPerson mo_newWidth mo_kept hDO mo_many mo_taken mo_length hXB hXC hXF hXY hXS hXP hFA hLE] s.heap.size = A at X hD ⊢
  have hS : va_S A s.heap s.heap [] := va_S.rf
  have hl := lv_entry ([.ref hMO]) (n := 7) (Nat.le_of_ble_eq_true rfl)
  rw [lg_entry_eq]
  generalize (lg_sl ([.ref hMO]) ++ List.replicate (7 - (lg_sl ([.ref hMO])).length) Slot.unset).toArray = ls at hl ⊢
  have hl : lv_has ls 7 [(0, .ref hMO)] := hl
  dsimp only [headSpec]
  unfold MO_live at h
  refine lv_aload_n X.1 X.2.1 dX6_live_0 rfl (lv_at hl 0 rfl) ?_
  refine g_get X hP 0 6 10 (v := .long mo_goals) rfl rfl inX6 (by decide) fl_X6_94 rfl dX6_live_1 ?_
  refine lv_lstore_n (lv' := [(1, .long mo_goals), (0, .ref hMO)]) X.1 X.2.1 dX6_live_4 rfl hl (by decide) rfl (fun ls hl => ?_)
  refine lv_lconst (v := (0 : Int64)) X.1 X.2.1 dX6_live_5 (by decide) ?_
  refine lv_lstore_n (lv' := [(3, .long (0 : Int64)), (1, .long mo_goals), (0, .ref hMO)]) X.1 X.2.1 dX6_live_6 rfl hl (by decide) rfl (fun ls hl => ?_)
  obtain ⟨n', h⟩ := h
  exact s_MO_live_7 X  n' mo_goals (0 : Int64) _ _ _ h hP hD hS (lv_sub hl [2, 1, 0] rfl)
abbrev rm_MO_dead : Room := { frames := 3, cells := 0, slots := 0, locals := 72 }
set_option maxHeartbeats 4000000 in
set_option maxRecDepth 100000 in
theorem s_MO_dead_16 {p : Program} {l : Launch} {e : Env} {s : State} {m : MethodId} {args : Array Value} {below : List Frame} {meth : Method} {c : Code} {G : gEnv} {A : Nat → Prop} {hMO : Nat} {hTM : Nat} {hDO : Nat} {hXB : Nat} {hXC : Nat} {hXF : Nat} {hXY : Nat} {hXS : Nat} {hXP : Nat} {hFA : Nat} {hLE : Nat} {mo_size : Int32} {mo_isBoard : Int32} {mo_person : Int32} {mo_moves : Int32} {mo_pushes : Int32} {mo_boxes : Int64} {mo_newFloor : Int64} {mo_newGoals : Int64} {mo_newBoxes : Int64} {mo_newPerson : Int32} {mo_newWidth : Int32} {mo_kept : Int32} {mo_many : Int32} {mo_taken : Int32} {mo_length : Int32} {mo_width : Int32} {mo_height : Int32} {mo_floor : Int64} {mo_goals : Int64} {post : Int32 → Int32 → Prop} (X : gX p m meth c cX6_dead 3 RX6 (some .boolean) s args G A)  : ∀ (mo_thrown : Int32) (v1 : Int32) (v2 : Int32) (t1 : Int32) (t2 : Int32) (H : Heap) (locs : List Loc) (ls : Array Slot), MO_dead_16 mo_width mo_height mo_floor mo_goals post mo_thrown v1 v2 t1 t2 → va_P G.1 gCl [cMO hMO mo_thrown mo_size hTM mo_isBoard mo_width mo_height mo_person mo_moves mo_pushes mo_floor mo_goals mo_boxes mo_newFloor mo_newGoals mo_newBoxes mo_newPerson mo_newWidth mo_kept hDO mo_many mo_taken mo_length hXB hXC hXF hXY hXS hXP hFA hLE] H → va_D A [cMO hMO mo_thrown mo_size hTM mo_isBoard mo_width mo_height mo_person mo_moves mo_pushes mo_floor mo_goals mo_boxes mo_newFloor mo_newGoals mo_newBoxes mo_newPerson mo_newWidth mo_kept hDO mo_many mo_taken mo_length hXB hXC hXF hXY hXS hXP hFA hLE] → va_S A s.heap H locs → lv_has ls 3 [(0, .ref hMO), (1, .int v1), (2, .int v2)] → W p l e rm_MO_dead s m args below meth c H locs 0 0 (MQ below (gQi G (fun (r : Int32) (u : Int32) => post r u) (fun (u : Int32) => [cMO hMO u mo_size hTM mo_isBoard mo_width mo_height mo_person mo_moves mo_pushes mo_floor mo_goals mo_boxes mo_newFloor mo_newGoals mo_newBoxes mo_newPerson mo_newWidth mo_kept hDO mo_many mo_taken mo_length hXB hXC hXF hXY hXS hXP hFA hLE]) A) args s 0 0 A) (F0 m 16 ls [.int t2, .int t1, .ref hMO]) := by
  intro mo_thrown v1 v2 t1 t2 H locs ls h hP hD hS hl
  unfold MO_dead_16 at h
  refine g_ci (wr := []) X [0] [] (g_rV (As := [.int t1, .int t2]) (rest := []) X (c_MO_throwsIf l G hMO hTM hDO hXB hXC hXF hXY hXS hXP hFA hLE mo_thrown mo_size mo_isBoard mo_width mo_height mo_person mo_moves mo_pushes mo_floor mo_goals mo_boxes mo_newFloor mo_newGoals mo_newBoxes mo_newPerson mo_newWidth mo_kept mo_many mo_taken mo_length t1 t2 _ h _) lk_X6_118 rfl rfl ⟨Nat.le_of_ble_eq_true rfl, Nat.le_of_ble_eq_true rfl⟩ hP hD hS [0] rfl rfl 0 6 rfl rfl rfl hl.1 rfl (Nat.le_of_ble_eq_true rfl) dX6_dead_16 ⟨Nat.le_of_ble_eq_true rfl, Nat.le_of_ble_eq_true rfl⟩) hP hD hS rfl rfl rfl (by decide) (fun r_1 u H locs h hP hD hS => ?_)
  obtain ⟨mo_thrown_2, rfl⟩ : ∃ z, z = u := ⟨_, rfl⟩
  try dsimp only at h
  replace hP := hP.sub (ws' := [cMO hMO mo_thrown_2 mo_size hTM mo_isBoard mo_width mo_height mo_person mo_moves mo_pushes mo_floor mo_goals mo_boxes mo_newFloor mo_newGoals mo_newBoxes mo_newPerson mo_newWidth mo_kept hDO mo_many mo_taken mo_length hXB hXC hXF hXY hXS hXP hFA hLE]) [0] rfl
  replace hD := hD.sub (ws' := [cMO hMO mo_thrown_2 mo_size hTM mo_isBoard mo_width mo_height mo_person mo_moves mo_pushes mo_floor mo_goals mo_boxes mo_newFloor mo_newGoals mo_newBoxes mo_newPerson mo_newWidth mo_kept hDO mo_many mo_taken mo_length hXB hXC hXF hXY hXS hXP hFA hLE]) [0] rfl rfl
  refine lv_if_eq (tgt := 24) X.1 X.2.1 dX6_dead_19 (by decide) (fun hc => ?_) (fun hc => ?_)
  · replace h := Eq.mp (if_pos hc) h
    refine lv_aload_n X.1 X.2.1 dX6_dead_24 rfl (lv_at hl 0 rfl) ?_
    refine g_get X hP 0 6 9 (v := .long mo_floor) rfl rfl inX6 (by decide) fl_X6_87 rfl dX6_dead_25 ?_
    refine lv_aload_n X.1 X.2.1 dX6_dead_28 rfl (lv_at hl 0 rfl) ?_
    refine g_cl (wr := []) X [0] [] (g_rV (As := []) (rest := [.long mo_floor]) X (c_MO_live l G hMO hTM hDO hXB hXC hXF hXY hXS hXP hFA hLE mo_thrown_2 mo_size mo_isBoard mo_width mo_height mo_person mo_moves mo_pushes mo_floor mo_goals mo_boxes mo_newFloor mo_newGoals mo_newBoxes mo_newPerson mo_newWidth mo_kept mo_many mo_taken mo_length _ h _) lk_X6_143 rfl rfl ⟨Nat.le_of_ble_eq_true rfl, Nat.le_of_ble_eq_true rfl⟩ hP hD hS [0] rfl rfl 0 6 rfl rfl rfl hl.1 rfl (Nat.le_of_ble_eq_true rfl) dX6_dead_29 ⟨Nat.le_of_ble_eq_true rfl, Nat.le_of_ble_eq_true rfl⟩) hP hD hS rfl rfl rfl (by decide) (fun r_3 u H locs h hP hD hS => ?_)
    try dsimp only at h
    replace hP := hP.sub (ws' := [cMO hMO mo_thrown_2 mo_size hTM mo_isBoard mo_width mo_height mo_person mo_moves mo_pushes mo_floor mo_goals mo_boxes mo_newFloor mo_newGoals mo_newBoxes mo_newPerson mo_newWidth mo_kept hDO mo_many mo_taken mo_length hXB hXC hXF hXY hXS hXP hFA hLE]) [0] rfl
    replace hD := hD.sub (ws' := [cMO hMO mo_thrown_2 mo_size hTM mo_isBoard mo_width mo_height mo_person mo_moves mo_pushes mo_floor mo_goals mo_boxes mo_newFloor mo_newGoals mo_newBoxes mo_newPerson mo_newWidth mo_kept hDO mo_many mo_taken mo_length hXB hXC hXF hXY hXS hXP hFA hLE]) [0] rfl rfl
    refine lv_ldc2 (v := (-1 : Int64)) X.1 X.2.1 X.2.2.2.1 (X.2.2.2.2.1 _ cn_X6_116) dX6_dead_32 ?_
    refine lv_lxor X.1 X.2.1 dX6_dead_35 ?_
    refine lv_land X.1 X.2.1 dX6_dead_36 ?_
    refine lv_bipush (v := (8 : Int32)) X.1 X.2.1 dX6_dead_37 (by decide) ?_
    refine lv_iload_n X.1 X.2.1 dX6_dead_39 rfl (lv_at hl 2 rfl) ?_
    refine lv_imul X.1 X.2.1 dX6_dead_40 ?_
    refine lv_iload_n X.1 X.2.1 dX6_dead_41 rfl (lv_at hl 1 rfl) ?_
    refine lv_iadd X.1 X.2.1 dX6_dead_42 ?_
    refine g_ci (wr := [cMO hMO mo_thrown_2 mo_size hTM mo_isBoard mo_width mo_height mo_person mo_moves mo_pushes mo_floor mo_goals mo_boxes mo_newFloor mo_newGoals mo_newBoxes mo_newPerson mo_newWidth mo_kept hDO mo_many mo_taken mo_length hXB hXC hXF hXY hXS hXP hFA hLE]) X [] [0] (g_rS (As := [.long (mo_floor &&& (r_3 ^^^ (-1 : Int64))), .int (((8 : Int32) * v2) + v1)]) (rest := []) X (c_MO_has l G (mo_floor &&& (r_3 ^^^ (-1 : Int64))) (((8 : Int32) * v2) + v1) _ h _) lk_X6_90 rfl rfl ⟨Nat.le_of_ble_eq_true rfl, Nat.le_of_ble_eq_true rfl⟩ hP hD hS [] rfl rfl rfl hl.1 rfl (Nat.le_of_ble_eq_true rfl) dX6_dead_43 ⟨Nat.le_of_ble_eq_true rfl, Nat.le_of_ble_eq_true rfl⟩) hP hD hS rfl rfl rfl (by decide) (fun r_4 u H locs h hP hD hS => ?_)
    try dsimp only at h
    replace hP := hP.sub (ws' := [cMO hMO mo_thrown_2 mo_size hTM mo_isBoard mo_width mo_height mo_person mo_moves mo_pushes mo_floor mo_goals mo_boxes mo_newFloor mo_newGoals mo_newBoxes mo_newPerson mo_newWidth mo_kept hDO mo_many mo_taken mo_length hXB hXC hXF hXY hXS hXP hFA hLE]) [0] rfl
    replace hD := hD.sub (ws' := [cMO hMO mo_thrown_2 mo_size hTM mo_isBoard mo_width mo_height mo_person mo_moves mo_pushes mo_floor mo_goals mo_boxes mo_newFloor mo_newGoals mo_newBoxes mo_newPerson mo_newWidth mo_kept hDO mo_many mo_taken mo_length hXB hXC hXF hXY hXS hXP hFA hLE]) [0] rfl rfl
    obtain ⟨hv, h⟩ := h
    exact g_zret X hv mo_thrown_2 h hP hD hS dX6_dead_46
  · replace h := Eq.mp (if_neg hc) h
    refine lv_iconst (v := (0 : Int32)) X.1 X.2.1 dX6_dead_22 (by decide) ?_
    exact g_zret X (by decide) mo_thrown_2 h hP hD hS dX6_dead_23
set_option maxHeartbeats 4000000 in
set_option maxRecDepth 100000 in
theorem c_MO_dead (l : Launch) (G : gEnv) (hMO : Nat) (hTM : Nat) (hDO : Nat) (hXB : Nat) (hXC : Nat) (hXF : Nat) (hXY : Nat) (hXS : Nat) (hXP : Nat) (hFA : Nat) (hLE : Nat) (mo_thrown : Int32) (mo_size : Int32) (mo_isBoard : Int32) (mo_width : Int32) (mo_height : Int32) (mo_person : Int32) (mo_moves : Int32) (mo_pushes : Int32) (mo_floor : Int64) (mo_goals : Int64) (mo_boxes : Int64) (mo_newFloor : Int64) (mo_newGoals : Int64) (mo_newBoxes : Int64) (mo_newPerson : Int32) (mo_newWidth : Int32) (mo_kept : Int32) (mo_many : Int32) (mo_taken : Int32) (mo_length : Int32) (v1 : Int32) (v2 : Int32) (post : Int32 → Int32 → Prop) (h : MO_dead mo_width mo_height mo_floor mo_goals mo_thrown v1 v2 post) (sz : Nat) : Met l yX6_dead (Cond.code yX6_dead cX6_dead 3 (some .boolean) :: wAll) (rm_MO_dead) (gPc G [.ref hMO, .int v1, .int v2] [cMO hMO mo_thrown mo_size hTM mo_isBoard mo_width mo_height mo_person mo_moves mo_pushes mo_floor mo_goals mo_boxes mo_newFloor mo_newGoals mo_newBoxes mo_newPerson mo_newWidth mo_kept hDO mo_many mo_taken mo_length hXB hXC hXF hXY hXS hXP hFA hLE] sz) (gQi G (fun (r : Int32) (u : Int32) => post r u) (fun (u : Int32) => [cMO hMO u mo_size hTM mo_isBoard mo_width mo_height mo_person mo_moves mo_pushes mo_floor mo_goals mo_boxes mo_newFloor mo_newGoals mo_newBoxes mo_newPerson mo_newWidth mo_kept hDO mo_many mo_taken mo_length hXB hXC hXF hXY hXS hXP hFA hLE]) (va_A [cMO hMO mo_thrown mo_size hTM mo_isBoard mo_width mo_height mo_person mo_moves mo_pushes mo_floor mo_goals mo_boxes mo_newFloor mo_newGoals mo_newBoxes mo_newPerson mo_newWidth mo_kept hDO mo_many mo_taken mo_length hXB hXC hXF hXY hXS hXP hFA hLE] sz)) 0 0 (va_A [cMO hMO mo_thrown mo_size hTM mo_isBoard mo_width mo_height mo_person mo_moves mo_pushes mo_floor mo_goals mo_boxes mo_newFloor mo_newGoals mo_newBoxes mo_newPerson mo_newWidth mo_kept hDO mo_many mo_taken mo_length hXB hXC hXF hXY hXS hXP hFA hLE] sz) := by
  refine Met.ofW (cc := cX6_dead) (maxL := 3) (ret := (some .boolean)) (by decide) rfl ?_
  intro p e s m args below meth c s₁ B hml hv
  obtain ⟨rfl, hsz, hP, hK, hD0⟩ := hv
  subst hsz
  have X := gX.ofB (ws := [cMO hMO mo_thrown mo_size hTM mo_isBoard mo_width mo_height mo_person mo_moves mo_pushes mo_floor mo_goals mo_boxes mo_newFloor mo_newGoals mo_newBoxes mo_newPerson mo_newWidth mo_kept hDO mo_many mo_taken mo_length hXB hXC hXF hXY hXS hXP hFA hLE]) B hml hK hD0
  have hD := hD0.self (sz := s.heap.size)
  generalize hAe : va_A [cMO hMO mo_thrown mo_size hTM mo_isBoard mo_width mo_height mo_person mo_moves mo_pushes mo_floor mo_goals mo_boxes mo_newFloor mo_newGoals mo_newBoxes mo_newPerson mo_newWidth mo_kept hDO mo_many mo_taken mo_length hXB hXC hXF hXY hXS hXP hFA hLE] s.heap.size = A at X hD ⊢
  have hS : va_S A s.heap s.heap [] := va_S.rf
  have hl := lv_entry ([.ref hMO, .int v1, .int v2]) (n := 3) (Nat.le_of_ble_eq_true rfl)
  rw [lg_entry_eq]
  generalize (lg_sl ([.ref hMO, .int v1, .int v2]) ++ List.replicate (3 - (lg_sl ([.ref hMO, .int v1, .int v2])).length) Slot.unset).toArray = ls at hl ⊢
  have hl : lv_has ls 3 [(0, .ref hMO), (1, .int v1), (2, .int v2)] := hl
  dsimp only [headSpec]
  unfold MO_dead at h
  refine lv_aload_n X.1 X.2.1 dX6_dead_0 rfl (lv_at hl 0 rfl) ?_
  refine lv_iconst (v := (1 : Int32)) X.1 X.2.1 dX6_dead_1 (by decide) ?_
  refine lv_aload_n X.1 X.2.1 dX6_dead_2 rfl (lv_at hl 0 rfl) ?_
  refine lv_iload_n X.1 X.2.1 dX6_dead_3 rfl (lv_at hl 1 rfl) ?_
  refine lv_iload_n X.1 X.2.1 dX6_dead_4 rfl (lv_at hl 2 rfl) ?_
  refine g_ci (wr := []) X [0] [] (g_rV (As := [.int v1, .int v2]) (rest := [.int (1 : Int32), .ref hMO]) X (c_MO_isCell l G hMO hTM hDO hXB hXC hXF hXY hXS hXP hFA hLE mo_thrown mo_size mo_isBoard mo_width mo_height mo_person mo_moves mo_pushes mo_floor mo_goals mo_boxes mo_newFloor mo_newGoals mo_newBoxes mo_newPerson mo_newWidth mo_kept mo_many mo_taken mo_length v1 v2 _ h _) lk_X6_52 rfl rfl ⟨Nat.le_of_ble_eq_true rfl, Nat.le_of_ble_eq_true rfl⟩ hP hD hS [0] rfl rfl 0 6 rfl rfl rfl hl.1 rfl (Nat.le_of_ble_eq_true rfl) dX6_dead_5 ⟨Nat.le_of_ble_eq_true rfl, Nat.le_of_ble_eq_true rfl⟩) hP hD hS rfl rfl rfl (by decide) (fun r_1 u H locs h hP hD hS => ?_)
  try dsimp only at h
  replace hP := hP.sub (ws' := [cMO hMO mo_thrown mo_size hTM mo_isBoard mo_width mo_height mo_person mo_moves mo_pushes mo_floor mo_goals mo_boxes mo_newFloor mo_newGoals mo_newBoxes mo_newPerson mo_newWidth mo_kept hDO mo_many mo_taken mo_length hXB hXC hXF hXY hXS hXP hFA hLE]) [0] rfl
  replace hD := hD.sub (ws' := [cMO hMO mo_thrown mo_size hTM mo_isBoard mo_width mo_height mo_person mo_moves mo_pushes mo_floor mo_goals mo_boxes mo_newFloor mo_newGoals mo_newBoxes mo_newPerson mo_newWidth mo_kept hDO mo_many mo_taken mo_length hXB hXC hXF hXY hXS hXP hFA hLE]) [0] rfl rfl
  refine lv_if_ne (tgt := 15) X.1 X.2.1 dX6_dead_8 (by decide) (fun hc => ?_) (fun hc => ?_)
  · replace h := Eq.mp (if_neg hc) h
    refine lv_iconst (v := (0 : Int32)) X.1 X.2.1 dX6_dead_15 (by decide) ?_
    exact s_MO_dead_16 X  mo_thrown v1 v2 (1 : Int32) (0 : Int32) _ _ _ h hP hD hS (lv_sub hl [0, 1, 2] rfl)
  · replace h := Eq.mp (if_pos hc) h
    refine lv_iconst (v := (1 : Int32)) X.1 X.2.1 dX6_dead_11 (by decide) ?_
    refine lv_goto (tgt := 16) X.1 X.2.1 dX6_dead_12 (by decide) ?_
    exact s_MO_dead_16 X  mo_thrown v1 v2 (1 : Int32) (1 : Int32) _ _ _ h hP hD hS (lv_sub hl [0, 1, 2] rfl)
abbrev rm_MO_canGo : Room := { frames := 2, cells := 0, slots := 0, locals := 46 }
set_option maxHeartbeats 4000000 in
set_option maxRecDepth 100000 in
theorem c_MO_canGo (l : Launch) (G : gEnv) (hMO : Nat) (hTM : Nat) (hDO : Nat) (hXB : Nat) (hXC : Nat) (hXF : Nat) (hXY : Nat) (hXS : Nat) (hXP : Nat) (hFA : Nat) (hLE : Nat) (mo_thrown : Int32) (mo_size : Int32) (mo_isBoard : Int32) (mo_width : Int32) (mo_height : Int32) (mo_person : Int32) (mo_moves : Int32) (mo_pushes : Int32) (mo_floor : Int64) (mo_goals : Int64) (mo_boxes : Int64) (mo_newFloor : Int64) (mo_newGoals : Int64) (mo_newBoxes : Int64) (mo_newPerson : Int32) (mo_newWidth : Int32) (mo_kept : Int32) (mo_many : Int32) (mo_taken : Int32) (mo_length : Int32) (v1 : Int32) (v2 : Int32) (v3 : Int64) (v5 : Int64) (post : Int32 → Prop) (h : MO_canGo mo_width mo_height mo_floor v1 v2 v3 v5 post) (sz : Nat) : Met l yX6_canGo (Cond.code yX6_canGo cX6_canGo 9 (some .boolean) :: wAll) (rm_MO_canGo) (gPc G [.ref hMO, .int v1, .int v2, .long v3, .long v5] [cMO hMO mo_thrown mo_size hTM mo_isBoard mo_width mo_height mo_person mo_moves mo_pushes mo_floor mo_goals mo_boxes mo_newFloor mo_newGoals mo_newBoxes mo_newPerson mo_newWidth mo_kept hDO mo_many mo_taken mo_length hXB hXC hXF hXY hXS hXP hFA hLE] sz) (gQi G (fun (r : Int32) (u : Unit) => post r ) (fun (u : Unit) => [cMO hMO mo_thrown mo_size hTM mo_isBoard mo_width mo_height mo_person mo_moves mo_pushes mo_floor mo_goals mo_boxes mo_newFloor mo_newGoals mo_newBoxes mo_newPerson mo_newWidth mo_kept hDO mo_many mo_taken mo_length hXB hXC hXF hXY hXS hXP hFA hLE]) (va_A [cMO hMO mo_thrown mo_size hTM mo_isBoard mo_width mo_height mo_person mo_moves mo_pushes mo_floor mo_goals mo_boxes mo_newFloor mo_newGoals mo_newBoxes mo_newPerson mo_newWidth mo_kept hDO mo_many mo_taken mo_length hXB hXC hXF hXY hXS hXP hFA hLE] sz)) 0 0 (va_A [cMO hMO mo_thrown mo_size hTM mo_isBoard mo_width mo_height mo_person mo_moves mo_pushes mo_floor mo_goals mo_boxes mo_newFloor mo_newGoals mo_newBoxes mo_newPerson mo_newWidth mo_kept hDO mo_many mo_taken mo_length hXB hXC hXF hXY hXS hXP hFA hLE] sz) := by
  refine Met.ofW (cc := cX6_canGo) (maxL := 9) (ret := (some .boolean)) (by decide) rfl ?_
  intro p e s m args below meth c s₁ B hml hv
  obtain ⟨rfl, hsz, hP, hK, hD0⟩ := hv
  subst hsz
  have X := gX.ofB (ws := [cMO hMO mo_thrown mo_size hTM mo_isBoard mo_width mo_height mo_person mo_moves mo_pushes mo_floor mo_goals mo_boxes mo_newFloor mo_newGoals mo_newBoxes mo_newPerson mo_newWidth mo_kept hDO mo_many mo_taken mo_length hXB hXC hXF hXY hXS hXP hFA hLE]) B hml hK hD0
  have hD := hD0.self (sz := s.heap.size)
  generalize hAe : va_A [cMO hMO mo_thrown mo_size hTM mo_isBoard mo_width mo_height mo_person mo_moves mo_pushes mo_floor mo_goals mo_boxes mo_newFloor mo_newGoals mo_newBoxes mo_newPerson mo_newWidth mo_kept hDO mo_many mo_taken mo_length hXB hXC hXF hXY hXS hXP hFA hLE] s.heap.size = A at X hD ⊢
  have hS : va_S A s.heap s.heap [] := va_S.rf
  have hl := lv_entry ([.ref hMO, .int v1, .int v2, .long v3, .long v5]) (n := 9) (Nat.le_of_ble_eq_true rfl)
  rw [lg_entry_eq]
  generalize (lg_sl ([.ref hMO, .int v1, .int v2, .long v3, .long v5]) ++ List.replicate (9 - (lg_sl ([.ref hMO, .int v1, .int v2, .long v3, .long v5])).length) Slot.unset).toArray = ls at hl ⊢
  have hl : lv_has ls 9 [(0, .ref hMO), (1, .int v1), (2, .int v2), (3, .long v3), (5, .long v5)] := hl
  dsimp only [headSpec]
  unfold MO_canGo at h
  refine lv_aload_n X.1 X.2.1 dX6_canGo_0 rfl (lv_at hl 0 rfl) ?_
  refine lv_iload_n X.1 X.2.1 dX6_canGo_1 rfl (lv_at hl 1 rfl) ?_
  refine lv_iload_n X.1 X.2.1 dX6_canGo_2 rfl (lv_at hl 2 rfl) ?_
  refine g_ci (wr := []) X [0] [] (g_rV (As := [.int v1, .int v2]) (rest := []) X (c_MO_beside l G hMO hTM hDO hXB hXC hXF hXY hXS hXP hFA hLE mo_thrown mo_size mo_isBoard mo_width mo_height mo_person mo_moves mo_pushes mo_floor mo_goals mo_boxes mo_newFloor mo_newGoals mo_newBoxes mo_newPerson mo_newWidth mo_kept mo_many mo_taken mo_length v1 v2 _ h _) lk_X6_112 rfl rfl ⟨Nat.le_of_ble_eq_true rfl, Nat.le_of_ble_eq_true rfl⟩ hP hD hS [0] rfl rfl 0 6 rfl rfl rfl hl.1 rfl (Nat.le_of_ble_eq_true rfl) dX6_canGo_3 ⟨Nat.le_of_ble_eq_true rfl, Nat.le_of_ble_eq_true rfl⟩) hP hD hS rfl rfl rfl (by decide) (fun r_1 u H locs h hP hD hS => ?_)
  try dsimp only at h
  replace hP := hP.sub (ws' := [cMO hMO mo_thrown mo_size hTM mo_isBoard mo_width mo_height mo_person mo_moves mo_pushes mo_floor mo_goals mo_boxes mo_newFloor mo_newGoals mo_newBoxes mo_newPerson mo_newWidth mo_kept hDO mo_many mo_taken mo_length hXB hXC hXF hXY hXS hXP hFA hLE]) [0] rfl
  replace hD := hD.sub (ws' := [cMO hMO mo_thrown mo_size hTM mo_isBoard mo_width mo_height mo_person mo_moves mo_pushes mo_floor mo_goals mo_boxes mo_newFloor mo_newGoals mo_newBoxes mo_newPerson mo_newWidth mo_kept hDO mo_many mo_taken mo_length hXB hXC hXF hXY hXS hXP hFA hLE]) [0] rfl rfl
  refine lv_istore (lv' := [(7, .int r_1), (0, .ref hMO), (1, .int v1), (2, .int v2), (3, .long v3), (5, .long v5)]) X.1 X.2.1 dX6_canGo_6 hl (by decide) rfl (fun ls hl => ?_)
  refine lv_aload_n X.1 X.2.1 dX6_canGo_8 rfl (lv_at hl 1 rfl) ?_
  refine lv_iload_n X.1 X.2.1 dX6_canGo_9 rfl (lv_at hl 2 rfl) ?_
  refine lv_aload_n X.1 X.2.1 dX6_canGo_10 rfl (lv_at hl 1 rfl) ?_
  refine lv_iload_n X.1 X.2.1 dX6_canGo_11 rfl (lv_at hl 3 rfl) ?_
  refine g_ci (wr := []) X [0] [] (g_rV (As := [.int v2]) (rest := [.int v1, .ref hMO]) X (c_MO_against l G hMO hTM hDO hXB hXC hXF hXY hXS hXP hFA hLE mo_thrown mo_size mo_isBoard mo_width mo_height mo_person mo_moves mo_pushes mo_floor mo_goals mo_boxes mo_newFloor mo_newGoals mo_newBoxes mo_newPerson mo_newWidth mo_kept mo_many mo_taken mo_length v2 _ h _) lk_X6_126 rfl rfl ⟨Nat.le_of_ble_eq_true rfl, Nat.le_of_ble_eq_true rfl⟩ hP hD hS [0] rfl rfl 0 6 rfl rfl rfl hl.1 rfl (Nat.le_of_ble_eq_true rfl) dX6_canGo_12 ⟨Nat.le_of_ble_eq_true rfl, Nat.le_of_ble_eq_true rfl⟩) hP hD hS rfl rfl rfl (by decide) (fun r_2 u H locs h hP hD hS => ?_)
  try dsimp only at h
  replace hP := hP.sub (ws' := [cMO hMO mo_thrown mo_size hTM mo_isBoard mo_width mo_height mo_person mo_moves mo_pushes mo_floor mo_goals mo_boxes mo_newFloor mo_newGoals mo_newBoxes mo_newPerson mo_newWidth mo_kept hDO mo_many mo_taken mo_length hXB hXC hXF hXY hXS hXP hFA hLE]) [0] rfl
  replace hD := hD.sub (ws' := [cMO hMO mo_thrown mo_size hTM mo_isBoard mo_width mo_height mo_person mo_moves mo_pushes mo_floor mo_goals mo_boxes mo_newFloor mo_newGoals mo_newBoxes mo_newPerson mo_newWidth mo_kept hDO mo_many mo_taken mo_length hXB hXC hXF hXY hXS hXP hFA hLE]) [0] rfl rfl
  refine g_ci (wr := []) X [0] [] (g_rV (As := [.int v1, .int r_2]) (rest := []) X (c_MO_beside l G hMO hTM hDO hXB hXC hXF hXY hXS hXP hFA hLE mo_thrown mo_size mo_isBoard mo_width mo_height mo_person mo_moves mo_pushes mo_floor mo_goals mo_boxes mo_newFloor mo_newGoals mo_newBoxes mo_newPerson mo_newWidth mo_kept mo_many mo_taken mo_length v1 r_2 _ h _) lk_X6_112 rfl rfl ⟨Nat.le_of_ble_eq_true rfl, Nat.le_of_ble_eq_true rfl⟩ hP hD hS [0] rfl rfl 0 6 rfl rfl rfl hl.1 rfl (Nat.le_of_ble_eq_true rfl) dX6_canGo_15 ⟨Nat.le_of_ble_eq_true rfl, Nat.le_of_ble_eq_true rfl⟩) hP hD hS rfl rfl rfl (by decide) (fun r_3 u H locs h hP hD hS => ?_)
  try dsimp only at h
  replace hP := hP.sub (ws' := [cMO hMO mo_thrown mo_size hTM mo_isBoard mo_width mo_height mo_person mo_moves mo_pushes mo_floor mo_goals mo_boxes mo_newFloor mo_newGoals mo_newBoxes mo_newPerson mo_newWidth mo_kept hDO mo_many mo_taken mo_length hXB hXC hXF hXY hXS hXP hFA hLE]) [0] rfl
  replace hD := hD.sub (ws' := [cMO hMO mo_thrown mo_size hTM mo_isBoard mo_width mo_height mo_person mo_moves mo_pushes mo_floor mo_goals mo_boxes mo_newFloor mo_newGoals mo_newBoxes mo_newPerson mo_newWidth mo_kept hDO mo_many mo_taken mo_length hXB hXC hXF hXY hXS hXP hFA hLE]) [0] rfl rfl
  refine lv_istore (lv' := [(8, .int r_3), (7, .int r_1), (0, .ref hMO), (1, .int v1), (2, .int v2), (3, .long v3), (5, .long v5)]) X.1 X.2.1 dX6_canGo_18 hl (by decide) rfl (fun ls hl => ?_)
  refine lv_aload_n X.1 X.2.1 dX6_canGo_20 rfl (lv_at hl 2 rfl) ?_
  refine g_get X hP 0 6 9 (v := .long mo_floor) rfl rfl inX6 (by decide) fl_X6_87 rfl dX6_canGo_21 ?_
  refine lv_iload X.1 X.2.1 dX6_canGo_24 (lv_at hl 1 rfl) ?_
  refine g_ci (wr := [cMO hMO mo_thrown mo_size hTM mo_isBoard mo_width mo_height mo_person mo_moves mo_pushes mo_floor mo_goals mo_boxes mo_newFloor mo_newGoals mo_newBoxes mo_newPerson mo_newWidth mo_kept hDO mo_many mo_taken mo_length hXB hXC hXF hXY hXS hXP hFA hLE]) X [] [0] (g_rS (As := [.long mo_floor, .int r_1]) (rest := []) X (c_MO_has l G mo_floor r_1 _ h _) lk_X6_90 rfl rfl ⟨Nat.le_of_ble_eq_true rfl, Nat.le_of_ble_eq_true rfl⟩ hP hD hS [] rfl rfl rfl hl.1 rfl (Nat.le_of_ble_eq_true rfl) dX6_canGo_26 ⟨Nat.le_of_ble_eq_true rfl, Nat.le_of_ble_eq_true rfl⟩) hP hD hS rfl rfl rfl (by decide) (fun r_4 u H locs h hP hD hS => ?_)
  try dsimp only at h
  replace hP := hP.sub (ws' := [cMO hMO mo_thrown mo_size hTM mo_isBoard mo_width mo_height mo_person mo_moves mo_pushes mo_floor mo_goals mo_boxes mo_newFloor mo_newGoals mo_newBoxes mo_newPerson mo_newWidth mo_kept hDO mo_many mo_taken mo_length hXB hXC hXF hXY hXS hXP hFA hLE]) [0] rfl
  replace hD := hD.sub (ws' := [cMO hMO mo_thrown mo_size hTM mo_isBoard mo_width mo_height mo_person mo_moves mo_pushes mo_floor mo_goals mo_boxes mo_newFloor mo_newGoals mo_newBoxes mo_newPerson mo_newWidth mo_kept hDO mo_many mo_taken mo_length hXB hXC hXF hXY hXS hXP hFA hLE]) [0] rfl rfl
  refine lv_if_eq (tgt := 62) X.1 X.2.1 dX6_canGo_29 (by decide) (fun hc => ?_) (fun hc => ?_)
  · replace h := Eq.mp (if_pos hc) h
    refine lv_iconst (v := (0 : Int32)) X.1 X.2.1 dX6_canGo_62 (by decide) ?_
    exact g_zret X (by decide) () h hP hD hS dX6_canGo_63
  · replace h := Eq.mp (if_neg hc) h
    refine lv_aload_n X.1 X.2.1 dX6_canGo_32 rfl (lv_at hl 2 rfl) ?_
    refine g_get X hP 0 6 9 (v := .long mo_floor) rfl rfl inX6 (by decide) fl_X6_87 rfl dX6_canGo_33 ?_
    refine lv_iload X.1 X.2.1 dX6_canGo_36 (lv_at hl 0 rfl) ?_
    refine g_ci (wr := [cMO hMO mo_thrown mo_size hTM mo_isBoard mo_width mo_height mo_person mo_moves mo_pushes mo_floor mo_goals mo_boxes mo_newFloor mo_newGoals mo_newBoxes mo_newPerson mo_newWidth mo_kept hDO mo_many mo_taken mo_length hXB hXC hXF hXY hXS hXP hFA hLE]) X [] [0] (g_rS (As := [.long mo_floor, .int r_3]) (rest := []) X (c_MO_has l G mo_floor r_3 _ h _) lk_X6_90 rfl rfl ⟨Nat.le_of_ble_eq_true rfl, Nat.le_of_ble_eq_true rfl⟩ hP hD hS [] rfl rfl rfl hl.1 rfl (Nat.le_of_ble_eq_true rfl) dX6_canGo_38 ⟨Nat.le_of_ble_eq_true rfl, Nat.le_of_ble_eq_true rfl⟩) hP hD hS rfl rfl rfl (by decide) (fun r_5 u H locs h hP hD hS => ?_)
    try dsimp only at h
    replace hP := hP.sub (ws' := [cMO hMO mo_thrown mo_size hTM mo_isBoard mo_width mo_height mo_person mo_moves mo_pushes mo_floor mo_goals mo_boxes mo_newFloor mo_newGoals mo_newBoxes mo_newPerson mo_newWidth mo_kept hDO mo_many mo_taken mo_length hXB hXC hXF hXY hXS hXP hFA hLE]) [0] rfl
    replace hD := hD.sub (ws' := [cMO hMO mo_thrown mo_size hTM mo_isBoard mo_width mo_height mo_person mo_moves mo_pushes mo_floor mo_goals mo_boxes mo_newFloor mo_newGoals mo_newBoxes mo_newPerson mo_newWidth mo_kept hDO mo_many mo_taken mo_length hXB hXC hXF hXY hXS hXP hFA hLE]) [0] rfl rfl
    refine lv_if_eq (tgt := 62) X.1 X.2.1 dX6_canGo_41 (by decide) (fun hc => ?_) (fun hc => ?_)
    · replace h := Eq.mp (if_pos hc) h
      refine lv_iconst (v := (0 : Int32)) X.1 X.2.1 dX6_canGo_62 (by decide) ?_
      exact g_zret X (by decide) () h hP hD hS dX6_canGo_63
    · replace h := Eq.mp (if_neg hc) h
      refine lv_lload_n X.1 X.2.1 dX6_canGo_44 rfl (lv_at hl 5 rfl) ?_
      refine lv_iload X.1 X.2.1 dX6_canGo_45 (lv_at hl 1 rfl) ?_
      refine g_ci (wr := [cMO hMO mo_thrown mo_size hTM mo_isBoard mo_width mo_height mo_person mo_moves mo_pushes mo_floor mo_goals mo_boxes mo_newFloor mo_newGoals mo_newBoxes mo_newPerson mo_newWidth mo_kept hDO mo_many mo_taken mo_length hXB hXC hXF hXY hXS hXP hFA hLE]) X [] [0] (g_rS (As := [.long v3, .int r_1]) (rest := []) X (c_MO_has l G v3 r_1 _ h _) lk_X6_90 rfl rfl ⟨Nat.le_of_ble_eq_true rfl, Nat.le_of_ble_eq_true rfl⟩ hP hD hS [] rfl rfl rfl hl.1 rfl (Nat.le_of_ble_eq_true rfl) dX6_canGo_47 ⟨Nat.le_of_ble_eq_true rfl, Nat.le_of_ble_eq_true rfl⟩) hP hD hS rfl rfl rfl (by decide) (fun r_6 u H locs h hP hD hS => ?_)
      try dsimp only at h
      replace hP := hP.sub (ws' := [cMO hMO mo_thrown mo_size hTM mo_isBoard mo_width mo_height mo_person mo_moves mo_pushes mo_floor mo_goals mo_boxes mo_newFloor mo_newGoals mo_newBoxes mo_newPerson mo_newWidth mo_kept hDO mo_many mo_taken mo_length hXB hXC hXF hXY hXS hXP hFA hLE]) [0] rfl
      replace hD := hD.sub (ws' := [cMO hMO mo_thrown mo_size hTM mo_isBoard mo_width mo_height mo_person mo_moves mo_pushes mo_floor mo_goals mo_boxes mo_newFloor mo_newGoals mo_newBoxes mo_newPerson mo_newWidth mo_kept hDO mo_many mo_taken mo_length hXB hXC hXF hXY hXS hXP hFA hLE]) [0] rfl rfl
      refine lv_if_ne (tgt := 62) X.1 X.2.1 dX6_canGo_50 (by decide) (fun hc => ?_) (fun hc => ?_)
      · replace h := Eq.mp (if_neg hc) h
        refine lv_iconst (v := (0 : Int32)) X.1 X.2.1 dX6_canGo_62 (by decide) ?_
        exact g_zret X (by decide) () h hP hD hS dX6_canGo_63
      · replace h := Eq.mp (if_pos hc) h
        refine lv_lload_n X.1 X.2.1 dX6_canGo_53 rfl (lv_at hl 5 rfl) ?_
        refine lv_iload X.1 X.2.1 dX6_canGo_54 (lv_at hl 0 rfl) ?_
        refine g_ci (wr := [cMO hMO mo_thrown mo_size hTM mo_isBoard mo_width mo_height mo_person mo_moves mo_pushes mo_floor mo_goals mo_boxes mo_newFloor mo_newGoals mo_newBoxes mo_newPerson mo_newWidth mo_kept hDO mo_many mo_taken mo_length hXB hXC hXF hXY hXS hXP hFA hLE]) X [] [0] (g_rS (As := [.long v3, .int r_3]) (rest := []) X (c_MO_has l G v3 r_3 _ h _) lk_X6_90 rfl rfl ⟨Nat.le_of_ble_eq_true rfl, Nat.le_of_ble_eq_true rfl⟩ hP hD hS [] rfl rfl rfl hl.1 rfl (Nat.le_of_ble_eq_true rfl) dX6_canGo_56 ⟨Nat.le_of_ble_eq_true rfl, Nat.le_of_ble_eq_true rfl⟩) hP hD hS rfl rfl rfl (by decide) (fun r_7 u H locs h hP hD hS => ?_)
        try dsimp only at h
        replace hP := hP.sub (ws' := [cMO hMO mo_thrown mo_size hTM mo_isBoard mo_width mo_height mo_person mo_moves mo_pushes mo_floor mo_goals mo_boxes mo_newFloor mo_newGoals mo_newBoxes mo_newPerson mo_newWidth mo_kept hDO mo_many mo_taken mo_length hXB hXC hXF hXY hXS hXP hFA hLE]) [0] rfl
        replace hD := hD.sub (ws' := [cMO hMO mo_thrown mo_size hTM mo_isBoard mo_width mo_height mo_person mo_moves mo_pushes mo_floor mo_goals mo_boxes mo_newFloor mo_newGoals mo_newBoxes mo_newPerson mo_newWidth mo_kept hDO mo_many mo_taken mo_length hXB hXC hXF hXY hXS hXP hFA hLE]) [0] rfl rfl
        refine lv_if_eq (tgt := 64) X.1 X.2.1 dX6_canGo_59 (by decide) (fun hc => ?_) (fun hc => ?_)
        · replace h := Eq.mp (if_pos hc) h
          refine lv_lload X.1 X.2.1 dX6_canGo_64 (lv_at hl 6 rfl) ?_
          refine lv_iload X.1 X.2.1 dX6_canGo_66 (lv_at hl 1 rfl) ?_
          refine g_ci (wr := [cMO hMO mo_thrown mo_size hTM mo_isBoard mo_width mo_height mo_person mo_moves mo_pushes mo_floor mo_goals mo_boxes mo_newFloor mo_newGoals mo_newBoxes mo_newPerson mo_newWidth mo_kept hDO mo_many mo_taken mo_length hXB hXC hXF hXY hXS hXP hFA hLE]) X [] [0] (g_rS (As := [.long v5, .int r_1]) (rest := []) X (c_MO_has l G v5 r_1 _ h _) lk_X6_90 rfl rfl ⟨Nat.le_of_ble_eq_true rfl, Nat.le_of_ble_eq_true rfl⟩ hP hD hS [] rfl rfl rfl hl.1 rfl (Nat.le_of_ble_eq_true rfl) dX6_canGo_68 ⟨Nat.le_of_ble_eq_true rfl, Nat.le_of_ble_eq_true rfl⟩) hP hD hS rfl rfl rfl (by decide) (fun r_8 u H locs h hP hD hS => ?_)
          try dsimp only at h
          replace hP := hP.sub (ws' := [cMO hMO mo_thrown mo_size hTM mo_isBoard mo_width mo_height mo_person mo_moves mo_pushes mo_floor mo_goals mo_boxes mo_newFloor mo_newGoals mo_newBoxes mo_newPerson mo_newWidth mo_kept hDO mo_many mo_taken mo_length hXB hXC hXF hXY hXS hXP hFA hLE]) [0] rfl
          replace hD := hD.sub (ws' := [cMO hMO mo_thrown mo_size hTM mo_isBoard mo_width mo_height mo_person mo_moves mo_pushes mo_floor mo_goals mo_boxes mo_newFloor mo_newGoals mo_newBoxes mo_newPerson mo_newWidth mo_kept hDO mo_many mo_taken mo_length hXB hXC hXF hXY hXS hXP hFA hLE]) [0] rfl rfl
          refine lv_if_ne (tgt := 84) X.1 X.2.1 dX6_canGo_71 (by decide) (fun hc => ?_) (fun hc => ?_)
          · replace h := Eq.mp (if_neg hc) h
            refine lv_iconst (v := (1 : Int32)) X.1 X.2.1 dX6_canGo_84 (by decide) ?_
            refine lv_goto (tgt := 89) X.1 X.2.1 dX6_canGo_85 (by decide) ?_
            exact g_zret X (by decide) () h hP hD hS dX6_canGo_89
          · replace h := Eq.mp (if_pos hc) h
            refine lv_lload X.1 X.2.1 dX6_canGo_74 (lv_at hl 6 rfl) ?_
            refine lv_iload X.1 X.2.1 dX6_canGo_76 (lv_at hl 0 rfl) ?_
            refine g_ci (wr := [cMO hMO mo_thrown mo_size hTM mo_isBoard mo_width mo_height mo_person mo_moves mo_pushes mo_floor mo_goals mo_boxes mo_newFloor mo_newGoals mo_newBoxes mo_newPerson mo_newWidth mo_kept hDO mo_many mo_taken mo_length hXB hXC hXF hXY hXS hXP hFA hLE]) X [] [0] (g_rS (As := [.long v5, .int r_3]) (rest := []) X (c_MO_has l G v5 r_3 _ h _) lk_X6_90 rfl rfl ⟨Nat.le_of_ble_eq_true rfl, Nat.le_of_ble_eq_true rfl⟩ hP hD hS [] rfl rfl rfl hl.1 rfl (Nat.le_of_ble_eq_true rfl) dX6_canGo_78 ⟨Nat.le_of_ble_eq_true rfl, Nat.le_of_ble_eq_true rfl⟩) hP hD hS rfl rfl rfl (by decide) (fun r_9 u H locs h hP hD hS => ?_)
            try dsimp only at h
            replace hP := hP.sub (ws' := [cMO hMO mo_thrown mo_size hTM mo_isBoard mo_width mo_height mo_person mo_moves mo_pushes mo_floor mo_goals mo_boxes mo_newFloor mo_newGoals mo_newBoxes mo_newPerson mo_newWidth mo_kept hDO mo_many mo_taken mo_length hXB hXC hXF hXY hXS hXP hFA hLE]) [0] rfl
            replace hD := hD.sub (ws' := [cMO hMO mo_thrown mo_size hTM mo_isBoard mo_width mo_height mo_person mo_moves mo_pushes mo_floor mo_goals mo_boxes mo_newFloor mo_newGoals mo_newBoxes mo_newPerson mo_newWidth mo_kept hDO mo_many mo_taken mo_length hXB hXC hXF hXY hXS hXP hFA hLE]) [0] rfl rfl
            refine lv_if_eq (tgt := 88) X.1 X.2.1 dX6_canGo_81 (by decide) (fun hc => ?_) (fun hc => ?_)
            · replace h := Eq.mp (if_pos hc) h
              refine lv_iconst (v := (0 : Int32)) X.1 X.2.1 dX6_canGo_88 (by decide) ?_
              exact g_zret X (by decide) () h hP hD hS dX6_canGo_89
            · replace h := Eq.mp (if_neg hc) h
              refine lv_iconst (v := (1 : Int32)) X.1 X.2.1 dX6_canGo_84 (by decide) ?_
              refine lv_goto (tgt := 89) X.1 X.2.1 dX6_canGo_85 (by decide) ?_
              exact g_zret X (by decide) () h hP hD hS dX6_canGo_89
        · replace h := Eq.mp (if_neg hc) h
          refine lv_iconst (v := (0 : Int32)) X.1 X.2.1 dX6_canGo_62 (by decide) ?_
          exact g_zret X (by decide) () h hP hD hS dX6_canGo_63
abbrev rm_MO_fastOf : Room := { frames := 3, cells := 0, slots := 0, locals := 74 }
set_option maxHeartbeats 4000000 in
set_option maxRecDepth 100000 in
theorem s_MO_fastOf_64 {p : Program} {l : Launch} {e : Env} {s : State} {m : MethodId} {args : Array Value} {below : List Frame} {meth : Method} {c : Code} {G : gEnv} {A : Nat → Prop} {hMO : Nat} {hTM : Nat} {hDO : Nat} {hXB : Nat} {hXC : Nat} {hXF : Nat} {hXY : Nat} {hXS : Nat} {hXP : Nat} {hFA : Nat} {hLE : Nat} {mo_thrown : Int32} {mo_size : Int32} {mo_isBoard : Int32} {mo_person : Int32} {mo_moves : Int32} {mo_pushes : Int32} {mo_goals : Int64} {mo_boxes : Int64} {mo_newFloor : Int64} {mo_newGoals : Int64} {mo_newBoxes : Int64} {mo_newPerson : Int32} {mo_newWidth : Int32} {mo_kept : Int32} {mo_many : Int32} {mo_taken : Int32} {mo_length : Int32} {mo_width : Int32} {mo_height : Int32} {mo_floor : Int64} {k21 : Int64 → Int64 → Int64 → Int32 → Prop} {post : Int64 → Prop} (X : gX p m meth c cX6_fastOf 10 RX6 (some .long) s args G A) (hk21 : ∀ (v3' : Int64) (v5' : Int64) (v7' : Int64) (v9' : Int32) (H : Heap) (locs : List Loc) (ls : Array Slot), k21 v3' v5' v7' v9' → va_P G.1 gCl [cMO hMO mo_thrown mo_size hTM mo_isBoard mo_width mo_height mo_person mo_moves mo_pushes mo_floor mo_goals mo_boxes mo_newFloor mo_newGoals mo_newBoxes mo_newPerson mo_newWidth mo_kept hDO mo_many mo_taken mo_length hXB hXC hXF hXY hXS hXP hFA hLE] H → va_D A [cMO hMO mo_thrown mo_size hTM mo_isBoard mo_width mo_height mo_person mo_moves mo_pushes mo_floor mo_goals mo_boxes mo_newFloor mo_newGoals mo_newBoxes mo_newPerson mo_newWidth mo_kept hDO mo_many mo_taken mo_length hXB hXC hXF hXY hXS hXP hFA hLE] → va_S A s.heap H locs → lv_has ls 10 [(0, .ref hMO), (3, .long v3'), (5, .long v5'), (7, .long v7'), (9, .int v9')] → W p l e rm_MO_fastOf s m args below meth c H locs 0 0 (MQ below (gQl G (fun (r : Int64) (u : Unit) => post r ) (fun (u : Unit) => [cMO hMO mo_thrown mo_size hTM mo_isBoard mo_width mo_height mo_person mo_moves mo_pushes mo_floor mo_goals mo_boxes mo_newFloor mo_newGoals mo_newBoxes mo_newPerson mo_newWidth mo_kept hDO mo_many mo_taken mo_length hXB hXC hXF hXY hXS hXP hFA hLE]) A) args s 0 0 A) (F0 m 21 ls [])) : ∀ (v3 : Int64) (v5 : Int64) (v7 : Int64) (v9 : Int32) (H : Heap) (locs : List Loc) (ls : Array Slot), MO_fastOf_64 mo_width mo_height mo_floor k21 post v3 v5 v7 v9 → va_P G.1 gCl [cMO hMO mo_thrown mo_size hTM mo_isBoard mo_width mo_height mo_person mo_moves mo_pushes mo_floor mo_goals mo_boxes mo_newFloor mo_newGoals mo_newBoxes mo_newPerson mo_newWidth mo_kept hDO mo_many mo_taken mo_length hXB hXC hXF hXY hXS hXP hFA hLE] H → va_D A [cMO hMO mo_thrown mo_size hTM mo_isBoard mo_width mo_height mo_person mo_moves mo_pushes mo_floor mo_goals mo_boxes mo_newFloor mo_newGoals mo_newBoxes mo_newPerson mo_newWidth mo_kept hDO mo_many mo_taken mo_length hXB hXC hXF hXY hXS hXP hFA hLE] → va_S A s.heap H locs → lv_has ls 10 [(0, .ref hMO), (3, .long v3), (5, .long v5), (7, .long v7), (9, .int v9)] → W p l e rm_MO_fastOf s m args below meth c H locs 0 0 (MQ below (gQl G (fun (r : Int64) (u : Unit) => post r ) (fun (u : Unit) => [cMO hMO mo_thrown mo_size hTM mo_isBoard mo_width mo_height mo_person mo_moves mo_pushes mo_floor mo_goals mo_boxes mo_newFloor mo_newGoals mo_newBoxes mo_newPerson mo_newWidth mo_kept hDO mo_many mo_taken mo_length hXB hXC hXF hXY hXS hXP hFA hLE]) A) args s 0 0 A) (F0 m 64 ls []) := by
  intro v3 v5 v7 v9 H locs ls h hP hD hS hl
  unfold MO_fastOf_64 at h
  refine lv_lload X.1 X.2.1 dX6_fastOf_64 (lv_at hl 2 rfl) ?_
  refine lv_lconst (v := (1 : Int64)) X.1 X.2.1 dX6_fastOf_66 (by decide) ?_
  refine lv_iload X.1 X.2.1 dX6_fastOf_67 (lv_at hl 4 rfl) ?_
  refine lv_lshl X.1 X.2.1 dX6_fastOf_69 rfl ?_
  refine lv_ldc2 (v := (-1 : Int64)) X.1 X.2.1 X.2.2.2.1 (X.2.2.2.2.1 _ cn_X6_116) dX6_fastOf_70 ?_
  refine lv_lxor X.1 X.2.1 dX6_fastOf_73 ?_
  refine lv_land X.1 X.2.1 dX6_fastOf_74 ?_
  refine lv_topl (fun v5_1 e_v5_1 => ?_)
  replace h := h v5_1 e_v5_1
  refine lv_lstore (lv' := [(5, .long v5_1), (0, .ref hMO), (3, .long v3), (7, .long v7), (9, .int v9)]) X.1 X.2.1 dX6_fastOf_75 hl (by decide) rfl (fun ls hl => ?_)
  refine lv_iinc (v := (v9 + (1 : Int32))) (lv' := [(9, .int (v9 + (1 : Int32))), (5, .long v5_1), (0, .ref hMO), (3, .long v3), (7, .long v7)]) X.1 X.2.1 dX6_fastOf_77 hl (k := 4) rfl rfl (by decide) rfl (fun ls hl => ?_)
  refine lv_goto (tgt := 21) X.1 X.2.1 dX6_fastOf_80 (by decide) ?_
  exact hk21 v3 v5_1 v7 (v9 + (1 : Int32)) _ _ _ h hP hD hS (lv_sub hl [2, 3, 1, 4, 0] rfl)
set_option maxHeartbeats 4000000 in
set_option maxRecDepth 100000 in
theorem s_MO_fastOf_21 {p : Program} {l : Launch} {e : Env} {s : State} {m : MethodId} {args : Array Value} {below : List Frame} {meth : Method} {c : Code} {G : gEnv} {A : Nat → Prop} {hMO : Nat} {hTM : Nat} {hDO : Nat} {hXB : Nat} {hXC : Nat} {hXF : Nat} {hXY : Nat} {hXS : Nat} {hXP : Nat} {hFA : Nat} {hLE : Nat} {mo_thrown : Int32} {mo_size : Int32} {mo_isBoard : Int32} {mo_person : Int32} {mo_moves : Int32} {mo_pushes : Int32} {mo_goals : Int64} {mo_boxes : Int64} {mo_newFloor : Int64} {mo_newGoals : Int64} {mo_newBoxes : Int64} {mo_newPerson : Int32} {mo_newWidth : Int32} {mo_kept : Int32} {mo_many : Int32} {mo_taken : Int32} {mo_length : Int32} {mo_width : Int32} {mo_height : Int32} {mo_floor : Int64} {k6 : Int64 → Int64 → Int64 → Prop} {post : Int64 → Prop} (X : gX p m meth c cX6_fastOf 10 RX6 (some .long) s args G A) (hk6 : ∀ (v3' : Int64) (v5' : Int64) (v7' : Int64) (H : Heap) (locs : List Loc) (ls : Array Slot), k6 v3' v5' v7' → va_P G.1 gCl [cMO hMO mo_thrown mo_size hTM mo_isBoard mo_width mo_height mo_person mo_moves mo_pushes mo_floor mo_goals mo_boxes mo_newFloor mo_newGoals mo_newBoxes mo_newPerson mo_newWidth mo_kept hDO mo_many mo_taken mo_length hXB hXC hXF hXY hXS hXP hFA hLE] H → va_D A [cMO hMO mo_thrown mo_size hTM mo_isBoard mo_width mo_height mo_person mo_moves mo_pushes mo_floor mo_goals mo_boxes mo_newFloor mo_newGoals mo_newBoxes mo_newPerson mo_newWidth mo_kept hDO mo_many mo_taken mo_length hXB hXC hXF hXY hXS hXP hFA hLE] → va_S A s.heap H locs → lv_has ls 10 [(0, .ref hMO), (3, .long v3'), (5, .long v5'), (7, .long v7')] → W p l e rm_MO_fastOf s m args below meth c H locs 0 0 (MQ below (gQl G (fun (r : Int64) (u : Unit) => post r ) (fun (u : Unit) => [cMO hMO mo_thrown mo_size hTM mo_isBoard mo_width mo_height mo_person mo_moves mo_pushes mo_floor mo_goals mo_boxes mo_newFloor mo_newGoals mo_newBoxes mo_newPerson mo_newWidth mo_kept hDO mo_many mo_taken mo_length hXB hXC hXF hXY hXS hXP hFA hLE]) A) args s 0 0 A) (F0 m 6 ls [])) : ∀ (n : Nat) (v3 : Int64) (v5 : Int64) (v7 : Int64) (v9 : Int32) (H : Heap) (locs : List Loc) (ls : Array Slot), MO_fastOf_21 mo_width mo_height mo_floor k6 post n v3 v5 v7 v9 → va_P G.1 gCl [cMO hMO mo_thrown mo_size hTM mo_isBoard mo_width mo_height mo_person mo_moves mo_pushes mo_floor mo_goals mo_boxes mo_newFloor mo_newGoals mo_newBoxes mo_newPerson mo_newWidth mo_kept hDO mo_many mo_taken mo_length hXB hXC hXF hXY hXS hXP hFA hLE] H → va_D A [cMO hMO mo_thrown mo_size hTM mo_isBoard mo_width mo_height mo_person mo_moves mo_pushes mo_floor mo_goals mo_boxes mo_newFloor mo_newGoals mo_newBoxes mo_newPerson mo_newWidth mo_kept hDO mo_many mo_taken mo_length hXB hXC hXF hXY hXS hXP hFA hLE] → va_S A s.heap H locs → lv_has ls 10 [(0, .ref hMO), (3, .long v3), (5, .long v5), (7, .long v7), (9, .int v9)] → W p l e rm_MO_fastOf s m args below meth c H locs 0 0 (MQ below (gQl G (fun (r : Int64) (u : Unit) => post r ) (fun (u : Unit) => [cMO hMO mo_thrown mo_size hTM mo_isBoard mo_width mo_height mo_person mo_moves mo_pushes mo_floor mo_goals mo_boxes mo_newFloor mo_newGoals mo_newBoxes mo_newPerson mo_newWidth mo_kept hDO mo_many mo_taken mo_length hXB hXC hXF hXY hXS hXP hFA hLE]) A) args s 0 0 A) (F0 m 21 ls []) := by
  intro n
  induction n with
  | zero => intro v3 v5 v7 v9 H locs ls h _ _ _ _; exact h.elim
  | succ n ih =>
    intro v3 v5 v7 v9 H locs ls h hP hD hS hl
    unfold MO_fastOf_21 at h
    refine lv_iload X.1 X.2.1 dX6_fastOf_21 (lv_at hl 4 rfl) ?_
    refine lv_bipush (v := (64 : Int32)) X.1 X.2.1 dX6_fastOf_23 (by decide) ?_
    refine lv_icmp_ge (tgt := 83) X.1 X.2.1 dX6_fastOf_25 (by decide) (fun hc => ?_) (fun hc => ?_)
    · replace h := Eq.mp (if_pos hc) h
      refine lv_goto (tgt := 6) X.1 X.2.1 dX6_fastOf_83 (by decide) ?_
      exact hk6 v3 v5 v7 _ _ _ h hP hD hS (lv_sub hl [0, 1, 2, 3] rfl)
    · replace h := Eq.mp (if_neg hc) h
      refine lv_lload X.1 X.2.1 dX6_fastOf_28 (lv_at hl 2 rfl) ?_
      refine lv_iload X.1 X.2.1 dX6_fastOf_30 (lv_at hl 4 rfl) ?_
      refine g_ci (wr := [cMO hMO mo_thrown mo_size hTM mo_isBoard mo_width mo_height mo_person mo_moves mo_pushes mo_floor mo_goals mo_boxes mo_newFloor mo_newGoals mo_newBoxes mo_newPerson mo_newWidth mo_kept hDO mo_many mo_taken mo_length hXB hXC hXF hXY hXS hXP hFA hLE]) X [] [0] (g_rS (As := [.long v5, .int v9]) (rest := []) X (c_MO_has l G v5 v9 _ h _) lk_X6_90 rfl rfl ⟨Nat.le_of_ble_eq_true rfl, Nat.le_of_ble_eq_true rfl⟩ hP hD hS [] rfl rfl rfl hl.1 rfl (Nat.le_of_ble_eq_true rfl) dX6_fastOf_32 ⟨Nat.le_of_ble_eq_true rfl, Nat.le_of_ble_eq_true rfl⟩) hP hD hS rfl rfl rfl (by decide) (fun r_1 u H locs h hP hD hS => ?_)
      try dsimp only at h
      replace hP := hP.sub (ws' := [cMO hMO mo_thrown mo_size hTM mo_isBoard mo_width mo_height mo_person mo_moves mo_pushes mo_floor mo_goals mo_boxes mo_newFloor mo_newGoals mo_newBoxes mo_newPerson mo_newWidth mo_kept hDO mo_many mo_taken mo_length hXB hXC hXF hXY hXS hXP hFA hLE]) [0] rfl
      replace hD := hD.sub (ws' := [cMO hMO mo_thrown mo_size hTM mo_isBoard mo_width mo_height mo_person mo_moves mo_pushes mo_floor mo_goals mo_boxes mo_newFloor mo_newGoals mo_newBoxes mo_newPerson mo_newWidth mo_kept hDO mo_many mo_taken mo_length hXB hXC hXF hXY hXS hXP hFA hLE]) [0] rfl rfl
      refine lv_if_eq (tgt := 77) X.1 X.2.1 dX6_fastOf_35 (by decide) (fun hc => ?_) (fun hc => ?_)
      · replace h := Eq.mp (if_pos hc) h
        refine lv_iinc (v := (v9 + (1 : Int32))) (lv' := [(9, .int (v9 + (1 : Int32))), (0, .ref hMO), (3, .long v3), (5, .long v5), (7, .long v7)]) X.1 X.2.1 dX6_fastOf_77 hl (k := 4) rfl rfl (by decide) rfl (fun ls hl => ?_)
        refine lv_goto (tgt := 21) X.1 X.2.1 dX6_fastOf_80 (by decide) ?_
        exact ih v3 v5 v7 (v9 + (1 : Int32)) _ _ _ h hP hD hS (lv_sub hl [1, 2, 3, 4, 0] rfl)
      · replace h := Eq.mp (if_neg hc) h
        refine lv_aload_n X.1 X.2.1 dX6_fastOf_38 rfl (lv_at hl 0 rfl) ?_
        refine lv_iload X.1 X.2.1 dX6_fastOf_39 (lv_at hl 4 rfl) ?_
        refine lv_iconst (v := (0 : Int32)) X.1 X.2.1 dX6_fastOf_41 (by decide) ?_
        refine lv_lload X.1 X.2.1 dX6_fastOf_42 (lv_at hl 2 rfl) ?_
        refine lv_lload_n X.1 X.2.1 dX6_fastOf_44 rfl (lv_at hl 1 rfl) ?_
        refine g_ci (wr := []) X [0] [] (g_rV (As := [.int v9, .int (0 : Int32), .long v5, .long v3]) (rest := []) X (c_MO_canGo l G hMO hTM hDO hXB hXC hXF hXY hXS hXP hFA hLE mo_thrown mo_size mo_isBoard mo_width mo_height mo_person mo_moves mo_pushes mo_floor mo_goals mo_boxes mo_newFloor mo_newGoals mo_newBoxes mo_newPerson mo_newWidth mo_kept mo_many mo_taken mo_length v9 (0 : Int32) v5 v3 _ h _) lk_X6_147 rfl rfl ⟨Nat.le_of_ble_eq_true rfl, Nat.le_of_ble_eq_true rfl⟩ hP hD hS [0] rfl rfl 0 6 rfl rfl rfl hl.1 rfl (Nat.le_of_ble_eq_true rfl) dX6_fastOf_45 ⟨Nat.le_of_ble_eq_true rfl, Nat.le_of_ble_eq_true rfl⟩) hP hD hS rfl rfl rfl (by decide) (fun r_2 u H locs h hP hD hS => ?_)
        try dsimp only at h
        replace hP := hP.sub (ws' := [cMO hMO mo_thrown mo_size hTM mo_isBoard mo_width mo_height mo_person mo_moves mo_pushes mo_floor mo_goals mo_boxes mo_newFloor mo_newGoals mo_newBoxes mo_newPerson mo_newWidth mo_kept hDO mo_many mo_taken mo_length hXB hXC hXF hXY hXS hXP hFA hLE]) [0] rfl
        replace hD := hD.sub (ws' := [cMO hMO mo_thrown mo_size hTM mo_isBoard mo_width mo_height mo_person mo_moves mo_pushes mo_floor mo_goals mo_boxes mo_newFloor mo_newGoals mo_newBoxes mo_newPerson mo_newWidth mo_kept hDO mo_many mo_taken mo_length hXB hXC hXF hXY hXS hXP hFA hLE]) [0] rfl rfl
        refine lv_if_ne (tgt := 64) X.1 X.2.1 dX6_fastOf_48 (by decide) (fun hc => ?_) (fun hc => ?_)
        · replace h := Eq.mp (if_neg hc) h
          exact s_MO_fastOf_64 X (fun v3' v5' v7' v9' H' locs' ls' h' hP' hD' hS' hl' => ih v3' v5' v7' v9' H' locs' ls' h' hP' hD' hS' hl') v3 v5 v7 v9 _ _ _ h hP hD hS (lv_sub hl [0, 1, 2, 3, 4] rfl)
        · replace h := Eq.mp (if_pos hc) h
          refine lv_aload_n X.1 X.2.1 dX6_fastOf_51 rfl (lv_at hl 0 rfl) ?_
          refine lv_iload X.1 X.2.1 dX6_fastOf_52 (lv_at hl 4 rfl) ?_
          refine lv_iconst (v := (1 : Int32)) X.1 X.2.1 dX6_fastOf_54 (by decide) ?_
          refine lv_lload X.1 X.2.1 dX6_fastOf_55 (lv_at hl 2 rfl) ?_
          refine lv_lload_n X.1 X.2.1 dX6_fastOf_57 rfl (lv_at hl 1 rfl) ?_
          refine g_ci (wr := []) X [0] [] (g_rV (As := [.int v9, .int (1 : Int32), .long v5, .long v3]) (rest := []) X (c_MO_canGo l G hMO hTM hDO hXB hXC hXF hXY hXS hXP hFA hLE mo_thrown mo_size mo_isBoard mo_width mo_height mo_person mo_moves mo_pushes mo_floor mo_goals mo_boxes mo_newFloor mo_newGoals mo_newBoxes mo_newPerson mo_newWidth mo_kept mo_many mo_taken mo_length v9 (1 : Int32) v5 v3 _ h _) lk_X6_147 rfl rfl ⟨Nat.le_of_ble_eq_true rfl, Nat.le_of_ble_eq_true rfl⟩ hP hD hS [0] rfl rfl 0 6 rfl rfl rfl hl.1 rfl (Nat.le_of_ble_eq_true rfl) dX6_fastOf_58 ⟨Nat.le_of_ble_eq_true rfl, Nat.le_of_ble_eq_true rfl⟩) hP hD hS rfl rfl rfl (by decide) (fun r_3 u H locs h hP hD hS => ?_)
          try dsimp only at h
          replace hP := hP.sub (ws' := [cMO hMO mo_thrown mo_size hTM mo_isBoard mo_width mo_height mo_person mo_moves mo_pushes mo_floor mo_goals mo_boxes mo_newFloor mo_newGoals mo_newBoxes mo_newPerson mo_newWidth mo_kept hDO mo_many mo_taken mo_length hXB hXC hXF hXY hXS hXP hFA hLE]) [0] rfl
          replace hD := hD.sub (ws' := [cMO hMO mo_thrown mo_size hTM mo_isBoard mo_width mo_height mo_person mo_moves mo_pushes mo_floor mo_goals mo_boxes mo_newFloor mo_newGoals mo_newBoxes mo_newPerson mo_newWidth mo_kept hDO mo_many mo_taken mo_length hXB hXC hXF hXY hXS hXP hFA hLE]) [0] rfl rfl
          refine lv_if_eq (tgt := 77) X.1 X.2.1 dX6_fastOf_61 (by decide) (fun hc => ?_) (fun hc => ?_)
          · replace h := Eq.mp (if_pos hc) h
            refine lv_iinc (v := (v9 + (1 : Int32))) (lv' := [(9, .int (v9 + (1 : Int32))), (0, .ref hMO), (3, .long v3), (5, .long v5), (7, .long v7)]) X.1 X.2.1 dX6_fastOf_77 hl (k := 4) rfl rfl (by decide) rfl (fun ls hl => ?_)
            refine lv_goto (tgt := 21) X.1 X.2.1 dX6_fastOf_80 (by decide) ?_
            exact ih v3 v5 v7 (v9 + (1 : Int32)) _ _ _ h hP hD hS (lv_sub hl [1, 2, 3, 4, 0] rfl)
          · replace h := Eq.mp (if_neg hc) h
            exact s_MO_fastOf_64 X (fun v3' v5' v7' v9' H' locs' ls' h' hP' hD' hS' hl' => ih v3' v5' v7' v9' H' locs' ls' h' hP' hD' hS' hl') v3 v5 v7 v9 _ _ _ h hP hD hS (lv_sub hl [0, 1, 2, 3, 4] rfl)
set_option maxHeartbeats 4000000 in
set_option maxRecDepth 100000 in
theorem s_MO_fastOf_6 {p : Program} {l : Launch} {e : Env} {s : State} {m : MethodId} {args : Array Value} {below : List Frame} {meth : Method} {c : Code} {G : gEnv} {A : Nat → Prop} {hMO : Nat} {hTM : Nat} {hDO : Nat} {hXB : Nat} {hXC : Nat} {hXF : Nat} {hXY : Nat} {hXS : Nat} {hXP : Nat} {hFA : Nat} {hLE : Nat} {mo_thrown : Int32} {mo_size : Int32} {mo_isBoard : Int32} {mo_person : Int32} {mo_moves : Int32} {mo_pushes : Int32} {mo_goals : Int64} {mo_boxes : Int64} {mo_newFloor : Int64} {mo_newGoals : Int64} {mo_newBoxes : Int64} {mo_newPerson : Int32} {mo_newWidth : Int32} {mo_kept : Int32} {mo_many : Int32} {mo_taken : Int32} {mo_length : Int32} {mo_width : Int32} {mo_height : Int32} {mo_floor : Int64} {post : Int64 → Prop} (X : gX p m meth c cX6_fastOf 10 RX6 (some .long) s args G A)  : ∀ (n : Nat) (v3 : Int64) (v5 : Int64) (v7 : Int64) (H : Heap) (locs : List Loc) (ls : Array Slot), MO_fastOf_6 mo_width mo_height mo_floor post n v3 v5 v7 → va_P G.1 gCl [cMO hMO mo_thrown mo_size hTM mo_isBoard mo_width mo_height mo_person mo_moves mo_pushes mo_floor mo_goals mo_boxes mo_newFloor mo_newGoals mo_newBoxes mo_newPerson mo_newWidth mo_kept hDO mo_many mo_taken mo_length hXB hXC hXF hXY hXS hXP hFA hLE] H → va_D A [cMO hMO mo_thrown mo_size hTM mo_isBoard mo_width mo_height mo_person mo_moves mo_pushes mo_floor mo_goals mo_boxes mo_newFloor mo_newGoals mo_newBoxes mo_newPerson mo_newWidth mo_kept hDO mo_many mo_taken mo_length hXB hXC hXF hXY hXS hXP hFA hLE] → va_S A s.heap H locs → lv_has ls 10 [(0, .ref hMO), (3, .long v3), (5, .long v5), (7, .long v7)] → W p l e rm_MO_fastOf s m args below meth c H locs 0 0 (MQ below (gQl G (fun (r : Int64) (u : Unit) => post r ) (fun (u : Unit) => [cMO hMO mo_thrown mo_size hTM mo_isBoard mo_width mo_height mo_person mo_moves mo_pushes mo_floor mo_goals mo_boxes mo_newFloor mo_newGoals mo_newBoxes mo_newPerson mo_newWidth mo_kept hDO mo_many mo_taken mo_length hXB hXC hXF hXY hXS hXP hFA hLE]) A) args s 0 0 A) (F0 m 6 ls []) := by
  intro n
  induction n with
  | zero => intro v3 v5 v7 H locs ls h _ _ _ _; exact h.elim
  | succ n ih =>
    intro v3 v5 v7 H locs ls h hP hD hS hl
    unfold MO_fastOf_6 at h
    refine lv_lload X.1 X.2.1 dX6_fastOf_6 (lv_at hl 2 rfl) ?_
    refine lv_lload X.1 X.2.1 dX6_fastOf_8 (lv_at hl 3 rfl) ?_
    refine g_lcmp_eq (tgt := 86) X dX6_fastOf_10 dX6_fastOf_11 (by decide) (fun hc => ?_) (fun hc => ?_)
    · replace h := Eq.mp (if_pos hc) h
      refine lv_lload X.1 X.2.1 dX6_fastOf_86 (lv_at hl 2 rfl) ?_
      exact g_lret X () h hP hD hS dX6_fastOf_88
    · replace h := Eq.mp (if_neg hc) h
      refine lv_lload X.1 X.2.1 dX6_fastOf_14 (lv_at hl 2 rfl) ?_
      refine lv_lstore (lv' := [(7, .long v5), (0, .ref hMO), (3, .long v3), (5, .long v5)]) X.1 X.2.1 dX6_fastOf_16 hl (by decide) rfl (fun ls hl => ?_)
      refine lv_iconst (v := (0 : Int32)) X.1 X.2.1 dX6_fastOf_18 (by decide) ?_
      refine lv_istore (lv' := [(9, .int (0 : Int32)), (7, .long v5), (0, .ref hMO), (3, .long v3), (5, .long v5)]) X.1 X.2.1 dX6_fastOf_19 hl (by decide) rfl (fun ls hl => ?_)
      obtain ⟨n', h⟩ := h
      exact s_MO_fastOf_21 X (fun v3' v5' v7' H' locs' ls' h' hP' hD' hS' hl' => ih v3' v5' v7' H' locs' ls' h' hP' hD' hS' hl') n' v3 v5 v5 (0 : Int32) _ _ _ h hP hD hS (lv_sub hl [2, 3, 4, 1, 0] rfl)
set_option maxHeartbeats 4000000 in
set_option maxRecDepth 100000 in
theorem c_MO_fastOf (l : Launch) (G : gEnv) (hMO : Nat) (hTM : Nat) (hDO : Nat) (hXB : Nat) (hXC : Nat) (hXF : Nat) (hXY : Nat) (hXS : Nat) (hXP : Nat) (hFA : Nat) (hLE : Nat) (mo_thrown : Int32) (mo_size : Int32) (mo_isBoard : Int32) (mo_width : Int32) (mo_height : Int32) (mo_person : Int32) (mo_moves : Int32) (mo_pushes : Int32) (mo_floor : Int64) (mo_goals : Int64) (mo_boxes : Int64) (mo_newFloor : Int64) (mo_newGoals : Int64) (mo_newBoxes : Int64) (mo_newPerson : Int32) (mo_newWidth : Int32) (mo_kept : Int32) (mo_many : Int32) (mo_taken : Int32) (mo_length : Int32) (v1 : Int64) (v3 : Int64) (post : Int64 → Prop) (h : MO_fastOf mo_width mo_height mo_floor v1 v3 post) (sz : Nat) : Met l yX6_fastOf (Cond.code yX6_fastOf cX6_fastOf 10 (some .long) :: wAll) (rm_MO_fastOf) (gPc G [.ref hMO, .long v1, .long v3] [cMO hMO mo_thrown mo_size hTM mo_isBoard mo_width mo_height mo_person mo_moves mo_pushes mo_floor mo_goals mo_boxes mo_newFloor mo_newGoals mo_newBoxes mo_newPerson mo_newWidth mo_kept hDO mo_many mo_taken mo_length hXB hXC hXF hXY hXS hXP hFA hLE] sz) (gQl G (fun (r : Int64) (u : Unit) => post r ) (fun (u : Unit) => [cMO hMO mo_thrown mo_size hTM mo_isBoard mo_width mo_height mo_person mo_moves mo_pushes mo_floor mo_goals mo_boxes mo_newFloor mo_newGoals mo_newBoxes mo_newPerson mo_newWidth mo_kept hDO mo_many mo_taken mo_length hXB hXC hXF hXY hXS hXP hFA hLE]) (va_A [cMO hMO mo_thrown mo_size hTM mo_isBoard mo_width mo_height mo_person mo_moves mo_pushes mo_floor mo_goals mo_boxes mo_newFloor mo_newGoals mo_newBoxes mo_newPerson mo_newWidth mo_kept hDO mo_many mo_taken mo_length hXB hXC hXF hXY hXS hXP hFA hLE] sz)) 0 0 (va_A [cMO hMO mo_thrown mo_size hTM mo_isBoard mo_width mo_height mo_person mo_moves mo_pushes mo_floor mo_goals mo_boxes mo_newFloor mo_newGoals mo_newBoxes mo_newPerson mo_newWidth mo_kept hDO mo_many mo_taken mo_length hXB hXC hXF hXY hXS hXP hFA hLE] sz) := by
  refine Met.ofW (cc := cX6_fastOf) (maxL := 10) (ret := (some .long)) (by decide) rfl ?_
  intro p e s m args below meth c s₁ B hml hv
  obtain ⟨rfl, hsz, hP, hK, hD0⟩ := hv
  subst hsz
  have X := gX.ofB (ws := [cMO hMO mo_thrown mo_size hTM mo_isBoard mo_width mo_height mo_person mo_moves mo_pushes mo_floor mo_goals mo_boxes mo_newFloor mo_newGoals mo_newBoxes mo_newPerson mo_newWidth mo_kept hDO mo_many mo_taken mo_length hXB hXC hXF hXY hXS hXP hFA hLE]) B hml hK hD0
  have hD := hD0.self (sz := s.heap.size)
  generalize hAe : va_A [cMO hMO mo_thrown mo_size hTM mo_isBoard mo_width mo_height mo_person mo_moves mo_pushes mo_floor mo_goals mo_boxes mo_newFloor mo_newGoals mo_newBoxes mo_newPerson mo_newWidth mo_kept hDO mo_many mo_taken mo_length hXB hXC hXF hXY hXS hXP hFA hLE] s.heap.size = A at X hD ⊢
  have hS : va_S A s.heap s.heap [] := va_S.rf
  have hl := lv_entry ([.ref hMO, .long v1, .long v3]) (n := 10) (Nat.le_of_ble_eq_true rfl)
  rw [lg_entry_eq]
  generalize (lg_sl ([.ref hMO, .long v1, .long v3]) ++ List.replicate (10 - (lg_sl ([.ref hMO, .long v1, .long v3])).length) Slot.unset).toArray = ls at hl ⊢
  have hl : lv_has ls 10 [(0, .ref hMO), (1, .long v1), (3, .long v3)] := hl
  dsimp only [headSpec]
  unfold MO_fastOf at h
  refine lv_lload_n X.1 X.2.1 dX6_fastOf_0 rfl (lv_at hl 1 rfl) ?_
  refine lv_lstore (lv' := [(5, .long v1), (0, .ref hMO), (1, .long v1), (3, .long v3)]) X.1 X.2.1 dX6_fastOf_1 hl (by decide) rfl (fun ls hl => ?_)
  refine lv_lconst (v := (0 : Int64)) X.1 X.2.1 dX6_fastOf_3 (by decide) ?_
  refine lv_lstore (lv' := [(7, .long (0 : Int64)), (5, .long v1), (0, .ref hMO), (1, .long v1), (3, .long v3)]) X.1 X.2.1 dX6_fastOf_4 hl (by decide) rfl (fun ls hl => ?_)
  obtain ⟨n', h⟩ := h
  exact s_MO_fastOf_6 X  n' v3 v1 (0 : Int64) _ _ _ h hP hD hS (lv_sub hl [2, 4, 1, 0] rfl)
abbrev rm_MO_fast : Room := { frames := 4, cells := 0, slots := 0, locals := 103 }
set_option maxHeartbeats 4000000 in
set_option maxRecDepth 100000 in
theorem c_MO_fast (l : Launch) (G : gEnv) (hMO : Nat) (hTM : Nat) (hDO : Nat) (hXB : Nat) (hXC : Nat) (hXF : Nat) (hXY : Nat) (hXS : Nat) (hXP : Nat) (hFA : Nat) (hLE : Nat) (mo_thrown : Int32) (mo_size : Int32) (mo_isBoard : Int32) (mo_width : Int32) (mo_height : Int32) (mo_person : Int32) (mo_moves : Int32) (mo_pushes : Int32) (mo_floor : Int64) (mo_goals : Int64) (mo_boxes : Int64) (mo_newFloor : Int64) (mo_newGoals : Int64) (mo_newBoxes : Int64) (mo_newPerson : Int32) (mo_newWidth : Int32) (mo_kept : Int32) (mo_many : Int32) (mo_taken : Int32) (mo_length : Int32) (post : Int32 → Int32 → Prop) (h : MO_fast mo_width mo_height mo_floor mo_goals mo_boxes mo_thrown post) (sz : Nat) : Met l yX6_fast (Cond.code yX6_fast cX6_fast 1 (some .int) :: wAll) (rm_MO_fast) (gPc G [.ref hMO] [cMO hMO mo_thrown mo_size hTM mo_isBoard mo_width mo_height mo_person mo_moves mo_pushes mo_floor mo_goals mo_boxes mo_newFloor mo_newGoals mo_newBoxes mo_newPerson mo_newWidth mo_kept hDO mo_many mo_taken mo_length hXB hXC hXF hXY hXS hXP hFA hLE] sz) (gQi G (fun (r : Int32) (u : Int32) => post r u) (fun (u : Int32) => [cMO hMO u mo_size hTM mo_isBoard mo_width mo_height mo_person mo_moves mo_pushes mo_floor mo_goals mo_boxes mo_newFloor mo_newGoals mo_newBoxes mo_newPerson mo_newWidth mo_kept hDO mo_many mo_taken mo_length hXB hXC hXF hXY hXS hXP hFA hLE]) (va_A [cMO hMO mo_thrown mo_size hTM mo_isBoard mo_width mo_height mo_person mo_moves mo_pushes mo_floor mo_goals mo_boxes mo_newFloor mo_newGoals mo_newBoxes mo_newPerson mo_newWidth mo_kept hDO mo_many mo_taken mo_length hXB hXC hXF hXY hXS hXP hFA hLE] sz)) 0 0 (va_A [cMO hMO mo_thrown mo_size hTM mo_isBoard mo_width mo_height mo_person mo_moves mo_pushes mo_floor mo_goals mo_boxes mo_newFloor mo_newGoals mo_newBoxes mo_newPerson mo_newWidth mo_kept hDO mo_many mo_taken mo_length hXB hXC hXF hXY hXS hXP hFA hLE] sz) := by
  refine Met.ofW (cc := cX6_fast) (maxL := 1) (ret := (some .int)) (by decide) rfl ?_
  intro p e s m args below meth c s₁ B hml hv
  obtain ⟨rfl, hsz, hP, hK, hD0⟩ := hv
  subst hsz
  have X := gX.ofB (ws := [cMO hMO mo_thrown mo_size hTM mo_isBoard mo_width mo_height mo_person mo_moves mo_pushes mo_floor mo_goals mo_boxes mo_newFloor mo_newGoals mo_newBoxes mo_newPerson mo_newWidth mo_kept hDO mo_many mo_taken mo_length hXB hXC hXF hXY hXS hXP hFA hLE]) B hml hK hD0
  have hD := hD0.self (sz := s.heap.size)
  generalize hAe : va_A [cMO hMO mo_thrown mo_size hTM mo_isBoard mo_width mo_height mo_person mo_moves mo_pushes mo_floor mo_goals mo_boxes mo_newFloor mo_newGoals mo_newBoxes mo_newPerson mo_newWidth mo_kept hDO mo_many mo_taken mo_length hXB hXC hXF hXY hXS hXP hFA hLE] s.heap.size = A at X hD ⊢
  have hS : va_S A s.heap s.heap [] := va_S.rf
  have hl := lv_entry ([.ref hMO]) (n := 1) (Nat.le_of_ble_eq_true rfl)
  rw [lg_entry_eq]
  generalize (lg_sl ([.ref hMO]) ++ List.replicate (1 - (lg_sl ([.ref hMO])).length) Slot.unset).toArray = ls at hl ⊢
  have hl : lv_has ls 1 [(0, .ref hMO)] := hl
  dsimp only [headSpec]
  unfold MO_fast at h
  refine lv_aload_n X.1 X.2.1 dX6_fast_0 rfl (lv_at hl 0 rfl) ?_
  refine lv_iconst (v := (0 : Int32)) X.1 X.2.1 dX6_fast_1 (by decide) ?_
  refine g_put X hP hD hS 0 6 0 (v := .int (0 : Int32)) rfl rfl inX6 tyX6 tyX6_ok nmX6 (by decide) fl_X6_42 rfl rfl rfl rfl (Nat.le_of_ble_eq_true rfl) dX6_fast_2 (fun H locs hP hD hS => ?_)
  replace hP : va_P G.1 gCl [cMO hMO (0 : Int32) mo_size hTM mo_isBoard mo_width mo_height mo_person mo_moves mo_pushes mo_floor mo_goals mo_boxes mo_newFloor mo_newGoals mo_newBoxes mo_newPerson mo_newWidth mo_kept hDO mo_many mo_taken mo_length hXB hXC hXF hXY hXS hXP hFA hLE] H := hP
  replace hD : va_D A [cMO hMO (0 : Int32) mo_size hTM mo_isBoard mo_width mo_height mo_person mo_moves mo_pushes mo_floor mo_goals mo_boxes mo_newFloor mo_newGoals mo_newBoxes mo_newPerson mo_newWidth mo_kept hDO mo_many mo_taken mo_length hXB hXC hXF hXY hXS hXP hFA hLE] := hD
  refine lv_aload_n X.1 X.2.1 dX6_fast_5 rfl (lv_at hl 0 rfl) ?_
  refine lv_aload_n X.1 X.2.1 dX6_fast_6 rfl (lv_at hl 0 rfl) ?_
  refine g_get X hP 0 6 11 (v := .long mo_boxes) rfl rfl inX6 (by decide) fl_X6_97 rfl dX6_fast_7 ?_
  refine lv_aload_n X.1 X.2.1 dX6_fast_10 rfl (lv_at hl 0 rfl) ?_
  refine g_cl (wr := []) X [0] [] (g_rV (As := []) (rest := [.long mo_boxes, .ref hMO]) X (c_MO_live l G hMO hTM hDO hXB hXC hXF hXY hXS hXP hFA hLE (0 : Int32) mo_size mo_isBoard mo_width mo_height mo_person mo_moves mo_pushes mo_floor mo_goals mo_boxes mo_newFloor mo_newGoals mo_newBoxes mo_newPerson mo_newWidth mo_kept mo_many mo_taken mo_length _ h _) lk_X6_143 rfl rfl ⟨Nat.le_of_ble_eq_true rfl, Nat.le_of_ble_eq_true rfl⟩ hP hD hS [0] rfl rfl 0 6 rfl rfl rfl hl.1 rfl (Nat.le_of_ble_eq_true rfl) dX6_fast_11 ⟨Nat.le_of_ble_eq_true rfl, Nat.le_of_ble_eq_true rfl⟩) hP hD hS rfl rfl rfl (by decide) (fun r_1 u H locs h hP hD hS => ?_)
  try dsimp only at h
  replace hP := hP.sub (ws' := [cMO hMO (0 : Int32) mo_size hTM mo_isBoard mo_width mo_height mo_person mo_moves mo_pushes mo_floor mo_goals mo_boxes mo_newFloor mo_newGoals mo_newBoxes mo_newPerson mo_newWidth mo_kept hDO mo_many mo_taken mo_length hXB hXC hXF hXY hXS hXP hFA hLE]) [0] rfl
  replace hD := hD.sub (ws' := [cMO hMO (0 : Int32) mo_size hTM mo_isBoard mo_width mo_height mo_person mo_moves mo_pushes mo_floor mo_goals mo_boxes mo_newFloor mo_newGoals mo_newBoxes mo_newPerson mo_newWidth mo_kept hDO mo_many mo_taken mo_length hXB hXC hXF hXY hXS hXP hFA hLE]) [0] rfl rfl
  refine g_cl (wr := []) X [0] [] (g_rV (As := [.long mo_boxes, .long r_1]) (rest := []) X (c_MO_fastOf l G hMO hTM hDO hXB hXC hXF hXY hXS hXP hFA hLE (0 : Int32) mo_size mo_isBoard mo_width mo_height mo_person mo_moves mo_pushes mo_floor mo_goals mo_boxes mo_newFloor mo_newGoals mo_newBoxes mo_newPerson mo_newWidth mo_kept mo_many mo_taken mo_length mo_boxes r_1 _ h _) lk_X6_151 rfl rfl ⟨Nat.le_of_ble_eq_true rfl, Nat.le_of_ble_eq_true rfl⟩ hP hD hS [0] rfl rfl 0 6 rfl rfl rfl hl.1 rfl (Nat.le_of_ble_eq_true rfl) dX6_fast_14 ⟨Nat.le_of_ble_eq_true rfl, Nat.le_of_ble_eq_true rfl⟩) hP hD hS rfl rfl rfl (by decide) (fun r_2 u H locs h hP hD hS => ?_)
  try dsimp only at h
  replace hP := hP.sub (ws' := [cMO hMO (0 : Int32) mo_size hTM mo_isBoard mo_width mo_height mo_person mo_moves mo_pushes mo_floor mo_goals mo_boxes mo_newFloor mo_newGoals mo_newBoxes mo_newPerson mo_newWidth mo_kept hDO mo_many mo_taken mo_length hXB hXC hXF hXY hXS hXP hFA hLE]) [0] rfl
  replace hD := hD.sub (ws' := [cMO hMO (0 : Int32) mo_size hTM mo_isBoard mo_width mo_height mo_person mo_moves mo_pushes mo_floor mo_goals mo_boxes mo_newFloor mo_newGoals mo_newBoxes mo_newPerson mo_newWidth mo_kept hDO mo_many mo_taken mo_length hXB hXC hXF hXY hXS hXP hFA hLE]) [0] rfl rfl
  refine g_ci (wr := [cMO hMO (0 : Int32) mo_size hTM mo_isBoard mo_width mo_height mo_person mo_moves mo_pushes mo_floor mo_goals mo_boxes mo_newFloor mo_newGoals mo_newBoxes mo_newPerson mo_newWidth mo_kept hDO mo_many mo_taken mo_length hXB hXC hXF hXY hXS hXP hFA hLE]) X [] [0] (g_rS (As := [.long r_2]) (rest := []) X (c_MO_countOf l G r_2 _ h _) lk_X6_75 rfl rfl ⟨Nat.le_of_ble_eq_true rfl, Nat.le_of_ble_eq_true rfl⟩ hP hD hS [] rfl rfl rfl hl.1 rfl (Nat.le_of_ble_eq_true rfl) dX6_fast_17 ⟨Nat.le_of_ble_eq_true rfl, Nat.le_of_ble_eq_true rfl⟩) hP hD hS rfl rfl rfl (by decide) (fun r_3 u H locs h hP hD hS => ?_)
  try dsimp only at h
  replace hP := hP.sub (ws' := [cMO hMO (0 : Int32) mo_size hTM mo_isBoard mo_width mo_height mo_person mo_moves mo_pushes mo_floor mo_goals mo_boxes mo_newFloor mo_newGoals mo_newBoxes mo_newPerson mo_newWidth mo_kept hDO mo_many mo_taken mo_length hXB hXC hXF hXY hXS hXP hFA hLE]) [0] rfl
  replace hD := hD.sub (ws' := [cMO hMO (0 : Int32) mo_size hTM mo_isBoard mo_width mo_height mo_person mo_moves mo_pushes mo_floor mo_goals mo_boxes mo_newFloor mo_newGoals mo_newBoxes mo_newPerson mo_newWidth mo_kept hDO mo_many mo_taken mo_length hXB hXC hXF hXY hXS hXP hFA hLE]) [0] rfl rfl
  exact g_iret X (0 : Int32) h hP hD hS dX6_fast_20
abbrev rm_MO_stuck : Room := { frames := 4, cells := 0, slots := 0, locals := 103 }
set_option maxHeartbeats 4000000 in
set_option maxRecDepth 100000 in
theorem c_MO_stuck (l : Launch) (G : gEnv) (hMO : Nat) (hTM : Nat) (hDO : Nat) (hXB : Nat) (hXC : Nat) (hXF : Nat) (hXY : Nat) (hXS : Nat) (hXP : Nat) (hFA : Nat) (hLE : Nat) (mo_thrown : Int32) (mo_size : Int32) (mo_isBoard : Int32) (mo_width : Int32) (mo_height : Int32) (mo_person : Int32) (mo_moves : Int32) (mo_pushes : Int32) (mo_floor : Int64) (mo_goals : Int64) (mo_boxes : Int64) (mo_newFloor : Int64) (mo_newGoals : Int64) (mo_newBoxes : Int64) (mo_newPerson : Int32) (mo_newWidth : Int32) (mo_kept : Int32) (mo_many : Int32) (mo_taken : Int32) (mo_length : Int32) (post : Int32 → Int32 → Prop) (h : MO_stuck mo_width mo_height mo_floor mo_goals mo_boxes mo_thrown post) (sz : Nat) : Met l yX6_stuck (Cond.code yX6_stuck cX6_stuck 1 (some .boolean) :: wAll) (rm_MO_stuck) (gPc G [.ref hMO] [cMO hMO mo_thrown mo_size hTM mo_isBoard mo_width mo_height mo_person mo_moves mo_pushes mo_floor mo_goals mo_boxes mo_newFloor mo_newGoals mo_newBoxes mo_newPerson mo_newWidth mo_kept hDO mo_many mo_taken mo_length hXB hXC hXF hXY hXS hXP hFA hLE] sz) (gQi G (fun (r : Int32) (u : Int32) => post r u) (fun (u : Int32) => [cMO hMO u mo_size hTM mo_isBoard mo_width mo_height mo_person mo_moves mo_pushes mo_floor mo_goals mo_boxes mo_newFloor mo_newGoals mo_newBoxes mo_newPerson mo_newWidth mo_kept hDO mo_many mo_taken mo_length hXB hXC hXF hXY hXS hXP hFA hLE]) (va_A [cMO hMO mo_thrown mo_size hTM mo_isBoard mo_width mo_height mo_person mo_moves mo_pushes mo_floor mo_goals mo_boxes mo_newFloor mo_newGoals mo_newBoxes mo_newPerson mo_newWidth mo_kept hDO mo_many mo_taken mo_length hXB hXC hXF hXY hXS hXP hFA hLE] sz)) 0 0 (va_A [cMO hMO mo_thrown mo_size hTM mo_isBoard mo_width mo_height mo_person mo_moves mo_pushes mo_floor mo_goals mo_boxes mo_newFloor mo_newGoals mo_newBoxes mo_newPerson mo_newWidth mo_kept hDO mo_many mo_taken mo_length hXB hXC hXF hXY hXS hXP hFA hLE] sz) := by
  refine Met.ofW (cc := cX6_stuck) (maxL := 1) (ret := (some .boolean)) (by decide) rfl ?_
  intro p e s m args below meth c s₁ B hml hv
  obtain ⟨rfl, hsz, hP, hK, hD0⟩ := hv
  subst hsz
  have X := gX.ofB (ws := [cMO hMO mo_thrown mo_size hTM mo_isBoard mo_width mo_height mo_person mo_moves mo_pushes mo_floor mo_goals mo_boxes mo_newFloor mo_newGoals mo_newBoxes mo_newPerson mo_newWidth mo_kept hDO mo_many mo_taken mo_length hXB hXC hXF hXY hXS hXP hFA hLE]) B hml hK hD0
  have hD := hD0.self (sz := s.heap.size)
  generalize hAe : va_A [cMO hMO mo_thrown mo_size hTM mo_isBoard mo_width mo_height mo_person mo_moves mo_pushes mo_floor mo_goals mo_boxes mo_newFloor mo_newGoals mo_newBoxes mo_newPerson mo_newWidth mo_kept hDO mo_many mo_taken mo_length hXB hXC hXF hXY hXS hXP hFA hLE] s.heap.size = A at X hD ⊢
  have hS : va_S A s.heap s.heap [] := va_S.rf
  have hl := lv_entry ([.ref hMO]) (n := 1) (Nat.le_of_ble_eq_true rfl)
  rw [lg_entry_eq]
  generalize (lg_sl ([.ref hMO]) ++ List.replicate (1 - (lg_sl ([.ref hMO])).length) Slot.unset).toArray = ls at hl ⊢
  have hl : lv_has ls 1 [(0, .ref hMO)] := hl
  dsimp only [headSpec]
  unfold MO_stuck at h
  refine lv_aload_n X.1 X.2.1 dX6_stuck_0 rfl (lv_at hl 0 rfl) ?_
  refine lv_iconst (v := (0 : Int32)) X.1 X.2.1 dX6_stuck_1 (by decide) ?_
  refine g_put X hP hD hS 0 6 0 (v := .int (0 : Int32)) rfl rfl inX6 tyX6 tyX6_ok nmX6 (by decide) fl_X6_42 rfl rfl rfl rfl (Nat.le_of_ble_eq_true rfl) dX6_stuck_2 (fun H locs hP hD hS => ?_)
  replace hP : va_P G.1 gCl [cMO hMO (0 : Int32) mo_size hTM mo_isBoard mo_width mo_height mo_person mo_moves mo_pushes mo_floor mo_goals mo_boxes mo_newFloor mo_newGoals mo_newBoxes mo_newPerson mo_newWidth mo_kept hDO mo_many mo_taken mo_length hXB hXC hXF hXY hXS hXP hFA hLE] H := hP
  replace hD : va_D A [cMO hMO (0 : Int32) mo_size hTM mo_isBoard mo_width mo_height mo_person mo_moves mo_pushes mo_floor mo_goals mo_boxes mo_newFloor mo_newGoals mo_newBoxes mo_newPerson mo_newWidth mo_kept hDO mo_many mo_taken mo_length hXB hXC hXF hXY hXS hXP hFA hLE] := hD
  refine lv_aload_n X.1 X.2.1 dX6_stuck_5 rfl (lv_at hl 0 rfl) ?_
  refine lv_aload_n X.1 X.2.1 dX6_stuck_6 rfl (lv_at hl 0 rfl) ?_
  refine g_get X hP 0 6 11 (v := .long mo_boxes) rfl rfl inX6 (by decide) fl_X6_97 rfl dX6_stuck_7 ?_
  refine lv_aload_n X.1 X.2.1 dX6_stuck_10 rfl (lv_at hl 0 rfl) ?_
  refine g_cl (wr := []) X [0] [] (g_rV (As := []) (rest := [.long mo_boxes, .ref hMO]) X (c_MO_live l G hMO hTM hDO hXB hXC hXF hXY hXS hXP hFA hLE (0 : Int32) mo_size mo_isBoard mo_width mo_height mo_person mo_moves mo_pushes mo_floor mo_goals mo_boxes mo_newFloor mo_newGoals mo_newBoxes mo_newPerson mo_newWidth mo_kept mo_many mo_taken mo_length _ h _) lk_X6_143 rfl rfl ⟨Nat.le_of_ble_eq_true rfl, Nat.le_of_ble_eq_true rfl⟩ hP hD hS [0] rfl rfl 0 6 rfl rfl rfl hl.1 rfl (Nat.le_of_ble_eq_true rfl) dX6_stuck_11 ⟨Nat.le_of_ble_eq_true rfl, Nat.le_of_ble_eq_true rfl⟩) hP hD hS rfl rfl rfl (by decide) (fun r_1 u H locs h hP hD hS => ?_)
  try dsimp only at h
  replace hP := hP.sub (ws' := [cMO hMO (0 : Int32) mo_size hTM mo_isBoard mo_width mo_height mo_person mo_moves mo_pushes mo_floor mo_goals mo_boxes mo_newFloor mo_newGoals mo_newBoxes mo_newPerson mo_newWidth mo_kept hDO mo_many mo_taken mo_length hXB hXC hXF hXY hXS hXP hFA hLE]) [0] rfl
  replace hD := hD.sub (ws' := [cMO hMO (0 : Int32) mo_size hTM mo_isBoard mo_width mo_height mo_person mo_moves mo_pushes mo_floor mo_goals mo_boxes mo_newFloor mo_newGoals mo_newBoxes mo_newPerson mo_newWidth mo_kept hDO mo_many mo_taken mo_length hXB hXC hXF hXY hXS hXP hFA hLE]) [0] rfl rfl
  refine g_cl (wr := []) X [0] [] (g_rV (As := [.long mo_boxes, .long r_1]) (rest := []) X (c_MO_fastOf l G hMO hTM hDO hXB hXC hXF hXY hXS hXP hFA hLE (0 : Int32) mo_size mo_isBoard mo_width mo_height mo_person mo_moves mo_pushes mo_floor mo_goals mo_boxes mo_newFloor mo_newGoals mo_newBoxes mo_newPerson mo_newWidth mo_kept mo_many mo_taken mo_length mo_boxes r_1 _ h _) lk_X6_151 rfl rfl ⟨Nat.le_of_ble_eq_true rfl, Nat.le_of_ble_eq_true rfl⟩ hP hD hS [0] rfl rfl 0 6 rfl rfl rfl hl.1 rfl (Nat.le_of_ble_eq_true rfl) dX6_stuck_14 ⟨Nat.le_of_ble_eq_true rfl, Nat.le_of_ble_eq_true rfl⟩) hP hD hS rfl rfl rfl (by decide) (fun r_2 u H locs h hP hD hS => ?_)
  try dsimp only at h
  replace hP := hP.sub (ws' := [cMO hMO (0 : Int32) mo_size hTM mo_isBoard mo_width mo_height mo_person mo_moves mo_pushes mo_floor mo_goals mo_boxes mo_newFloor mo_newGoals mo_newBoxes mo_newPerson mo_newWidth mo_kept hDO mo_many mo_taken mo_length hXB hXC hXF hXY hXS hXP hFA hLE]) [0] rfl
  replace hD := hD.sub (ws' := [cMO hMO (0 : Int32) mo_size hTM mo_isBoard mo_width mo_height mo_person mo_moves mo_pushes mo_floor mo_goals mo_boxes mo_newFloor mo_newGoals mo_newBoxes mo_newPerson mo_newWidth mo_kept hDO mo_many mo_taken mo_length hXB hXC hXF hXY hXS hXP hFA hLE]) [0] rfl rfl
  refine lv_aload_n X.1 X.2.1 dX6_stuck_17 rfl (lv_at hl 0 rfl) ?_
  refine g_get X hP 0 6 10 (v := .long mo_goals) rfl rfl inX6 (by decide) fl_X6_94 rfl dX6_stuck_18 ?_
  refine lv_ldc2 (v := (-1 : Int64)) X.1 X.2.1 X.2.2.2.1 (X.2.2.2.2.1 _ cn_X6_116) dX6_stuck_21 ?_
  refine lv_lxor X.1 X.2.1 dX6_stuck_24 ?_
  refine lv_land X.1 X.2.1 dX6_stuck_25 ?_
  refine lv_lconst (v := (0 : Int64)) X.1 X.2.1 dX6_stuck_26 (by decide) ?_
  refine g_lcmp_eq (tgt := 35) X dX6_stuck_27 dX6_stuck_28 (by decide) (fun hc => ?_) (fun hc => ?_)
  · replace h := Eq.mp (if_pos hc) h
    refine lv_iconst (v := (0 : Int32)) X.1 X.2.1 dX6_stuck_35 (by decide) ?_
    exact g_zret X (by decide) (0 : Int32) h hP hD hS dX6_stuck_36
  · replace h := Eq.mp (if_neg hc) h
    refine lv_iconst (v := (1 : Int32)) X.1 X.2.1 dX6_stuck_31 (by decide) ?_
    refine lv_goto (tgt := 36) X.1 X.2.1 dX6_stuck_32 (by decide) ?_
    exact g_zret X (by decide) (0 : Int32) h hP hD hS dX6_stuck_36
abbrev rm_MO_measure : Room := { frames := 2, cells := 0, slots := 0, locals := 46 }
set_option maxHeartbeats 4000000 in
set_option maxRecDepth 100000 in
theorem s_MO_measure_33 {p : Program} {l : Launch} {e : Env} {s : State} {m : MethodId} {args : Array Value} {below : List Frame} {meth : Method} {c : Code} {G : gEnv} {A : Nat → Prop} {hMO : Nat} {hTM : Nat} {hDO : Nat} {hXB : Nat} {hXC : Nat} {hXF : Nat} {hXY : Nat} {hXS : Nat} {hXP : Nat} {hFA : Nat} {hLE : Nat} {mo_thrown : Int32} {mo_size : Int32} {mo_isBoard : Int32} {mo_person : Int32} {mo_moves : Int32} {mo_pushes : Int32} {mo_goals : Int64} {mo_boxes : Int64} {mo_newFloor : Int64} {mo_newGoals : Int64} {mo_newBoxes : Int64} {mo_newPerson : Int32} {mo_newWidth : Int32} {mo_kept : Int32} {mo_many : Int32} {mo_taken : Int32} {mo_length : Int32} {mo_width : Int32} {mo_height : Int32} {mo_floor : Int64} {k2 : (Nat → Int32) → Int32 → Int32 → Prop} {post : (Nat → Int32) → Prop} (X : gX p m meth c cX6_measure 6 RX6 none s args G A) (hk2 : ∀ (aFA' : (Nat → Int32)) (v1' : Int32) (v2' : Int32) (H : Heap) (locs : List Loc) (ls : Array Slot), k2 aFA' v1' v2' → va_P G.1 gCl [cMO hMO mo_thrown mo_size hTM mo_isBoard mo_width mo_height mo_person mo_moves mo_pushes mo_floor mo_goals mo_boxes mo_newFloor mo_newGoals mo_newBoxes mo_newPerson mo_newWidth mo_kept hDO mo_many mo_taken mo_length hXB hXC hXF hXY hXS hXP hFA hLE, cI G hFA 64 aFA'] H → va_D A [cMO hMO mo_thrown mo_size hTM mo_isBoard mo_width mo_height mo_person mo_moves mo_pushes mo_floor mo_goals mo_boxes mo_newFloor mo_newGoals mo_newBoxes mo_newPerson mo_newWidth mo_kept hDO mo_many mo_taken mo_length hXB hXC hXF hXY hXS hXP hFA hLE, cI G hFA 64 aFA'] → va_S A s.heap H locs → lv_has ls 6 [(0, .ref hMO), (1, .int v1'), (2, .int v2')] → W p l e rm_MO_measure s m args below meth c H locs 0 0 (MQ below (gQv G (fun (u : (Nat → Int32)) => post u) (fun (u : (Nat → Int32)) => [cMO hMO mo_thrown mo_size hTM mo_isBoard mo_width mo_height mo_person mo_moves mo_pushes mo_floor mo_goals mo_boxes mo_newFloor mo_newGoals mo_newBoxes mo_newPerson mo_newWidth mo_kept hDO mo_many mo_taken mo_length hXB hXC hXF hXY hXS hXP hFA hLE, cI G hFA 64 u]) A) args s 0 0 A) (F0 m 2 ls [])) : ∀ (aFA : (Nat → Int32)) (v1 : Int32) (v2 : Int32) (t1 : Int32) (H : Heap) (locs : List Loc) (ls : Array Slot), MO_measure_33 mo_width mo_height mo_floor k2 post aFA v1 v2 t1 → va_P G.1 gCl [cMO hMO mo_thrown mo_size hTM mo_isBoard mo_width mo_height mo_person mo_moves mo_pushes mo_floor mo_goals mo_boxes mo_newFloor mo_newGoals mo_newBoxes mo_newPerson mo_newWidth mo_kept hDO mo_many mo_taken mo_length hXB hXC hXF hXY hXS hXP hFA hLE, cI G hFA 64 aFA] H → va_D A [cMO hMO mo_thrown mo_size hTM mo_isBoard mo_width mo_height mo_person mo_moves mo_pushes mo_floor mo_goals mo_boxes mo_newFloor mo_newGoals mo_newBoxes mo_newPerson mo_newWidth mo_kept hDO mo_many mo_taken mo_length hXB hXC hXF hXY hXS hXP hFA hLE, cI G hFA 64 aFA] → va_S A s.heap H locs → lv_has ls 6 [(0, .ref hMO), (1, .int v1), (2, .int v2)] → W p l e rm_MO_measure s m args below meth c H locs 0 0 (MQ below (gQv G (fun (u : (Nat → Int32)) => post u) (fun (u : (Nat → Int32)) => [cMO hMO mo_thrown mo_size hTM mo_isBoard mo_width mo_height mo_person mo_moves mo_pushes mo_floor mo_goals mo_boxes mo_newFloor mo_newGoals mo_newBoxes mo_newPerson mo_newWidth mo_kept hDO mo_many mo_taken mo_length hXB hXC hXF hXY hXS hXP hFA hLE, cI G hFA 64 u]) A) args s 0 0 A) (F0 m 33 ls [.int t1, .ref hFA]) := by
  intro aFA v1 v2 t1 H locs ls h hP hD hS hl
  unfold MO_measure_33 at h
  refine lv_iconst (v := (-1 : Int32)) X.1 X.2.1 dX6_measure_33 (by decide) ?_
  obtain ⟨hin, h⟩ := h
  refine g_ist X hP hD hS 1 rfl hin dX6_measure_34 (fun aFA_1 e_aFA_1 H locs hP hD hS => ?_)
  replace h := h aFA_1 e_aFA_1
  replace hP : va_P G.1 gCl [cMO hMO mo_thrown mo_size hTM mo_isBoard mo_width mo_height mo_person mo_moves mo_pushes mo_floor mo_goals mo_boxes mo_newFloor mo_newGoals mo_newBoxes mo_newPerson mo_newWidth mo_kept hDO mo_many mo_taken mo_length hXB hXC hXF hXY hXS hXP hFA hLE, cI G hFA 64 aFA_1] H := hP
  replace hD : va_D A [cMO hMO mo_thrown mo_size hTM mo_isBoard mo_width mo_height mo_person mo_moves mo_pushes mo_floor mo_goals mo_boxes mo_newFloor mo_newGoals mo_newBoxes mo_newPerson mo_newWidth mo_kept hDO mo_many mo_taken mo_length hXB hXC hXF hXY hXS hXP hFA hLE, cI G hFA 64 aFA_1] := hD
  refine lv_iinc (v := (v2 + (1 : Int32))) (lv' := [(2, .int (v2 + (1 : Int32))), (0, .ref hMO), (1, .int v1)]) X.1 X.2.1 dX6_measure_35 hl (k := 2) rfl rfl (by decide) rfl (fun ls hl => ?_)
  refine lv_goto (tgt := 2) X.1 X.2.1 dX6_measure_38 (by decide) ?_
  exact hk2 aFA_1 v1 (v2 + (1 : Int32)) _ _ _ h hP hD hS (lv_sub hl [1, 2, 0] rfl)
set_option maxHeartbeats 4000000 in
set_option maxRecDepth 100000 in
theorem s_MO_measure_73 {p : Program} {l : Launch} {e : Env} {s : State} {m : MethodId} {args : Array Value} {below : List Frame} {meth : Method} {c : Code} {G : gEnv} {A : Nat → Prop} {hMO : Nat} {hTM : Nat} {hDO : Nat} {hXB : Nat} {hXC : Nat} {hXF : Nat} {hXY : Nat} {hXS : Nat} {hXP : Nat} {hFA : Nat} {hLE : Nat} {mo_thrown : Int32} {mo_size : Int32} {mo_isBoard : Int32} {mo_person : Int32} {mo_moves : Int32} {mo_pushes : Int32} {mo_goals : Int64} {mo_boxes : Int64} {mo_newFloor : Int64} {mo_newGoals : Int64} {mo_newBoxes : Int64} {mo_newPerson : Int32} {mo_newWidth : Int32} {mo_kept : Int32} {mo_many : Int32} {mo_taken : Int32} {mo_length : Int32} {mo_width : Int32} {mo_height : Int32} {mo_floor : Int64} {k51 : (Nat → Int32) → Int32 → Int32 → Prop} {post : (Nat → Int32) → Prop} (X : gX p m meth c cX6_measure 6 RX6 none s args G A) (hk51 : ∀ (aFA' : (Nat → Int32)) (v2' : Int32) (v3' : Int32) (H : Heap) (locs : List Loc) (ls : Array Slot), k51 aFA' v2' v3' → va_P G.1 gCl [cMO hMO mo_thrown mo_size hTM mo_isBoard mo_width mo_height mo_person mo_moves mo_pushes mo_floor mo_goals mo_boxes mo_newFloor mo_newGoals mo_newBoxes mo_newPerson mo_newWidth mo_kept hDO mo_many mo_taken mo_length hXB hXC hXF hXY hXS hXP hFA hLE, cI G hFA 64 aFA'] H → va_D A [cMO hMO mo_thrown mo_size hTM mo_isBoard mo_width mo_height mo_person mo_moves mo_pushes mo_floor mo_goals mo_boxes mo_newFloor mo_newGoals mo_newBoxes mo_newPerson mo_newWidth mo_kept hDO mo_many mo_taken mo_length hXB hXC hXF hXY hXS hXP hFA hLE, cI G hFA 64 aFA'] → va_S A s.heap H locs → lv_has ls 6 [(0, .ref hMO), (2, .int v2'), (3, .int v3')] → W p l e rm_MO_measure s m args below meth c H locs 0 0 (MQ below (gQv G (fun (u : (Nat → Int32)) => post u) (fun (u : (Nat → Int32)) => [cMO hMO mo_thrown mo_size hTM mo_isBoard mo_width mo_height mo_person mo_moves mo_pushes mo_floor mo_goals mo_boxes mo_newFloor mo_newGoals mo_newBoxes mo_newPerson mo_newWidth mo_kept hDO mo_many mo_taken mo_length hXB hXC hXF hXY hXS hXP hFA hLE, cI G hFA 64 u]) A) args s 0 0 A) (F0 m 51 ls [])) : ∀ (n : Nat) (aFA : (Nat → Int32)) (v2 : Int32) (v3 : Int32) (v4 : Int32) (H : Heap) (locs : List Loc) (ls : Array Slot), MO_measure_73 mo_width mo_height mo_floor k51 post n aFA v2 v3 v4 → va_P G.1 gCl [cMO hMO mo_thrown mo_size hTM mo_isBoard mo_width mo_height mo_person mo_moves mo_pushes mo_floor mo_goals mo_boxes mo_newFloor mo_newGoals mo_newBoxes mo_newPerson mo_newWidth mo_kept hDO mo_many mo_taken mo_length hXB hXC hXF hXY hXS hXP hFA hLE, cI G hFA 64 aFA] H → va_D A [cMO hMO mo_thrown mo_size hTM mo_isBoard mo_width mo_height mo_person mo_moves mo_pushes mo_floor mo_goals mo_boxes mo_newFloor mo_newGoals mo_newBoxes mo_newPerson mo_newWidth mo_kept hDO mo_many mo_taken mo_length hXB hXC hXF hXY hXS hXP hFA hLE, cI G hFA 64 aFA] → va_S A s.heap H locs → lv_has ls 6 [(0, .ref hMO), (2, .int v2), (3, .int v3), (4, .int v4)] → W p l e rm_MO_measure s m args below meth c H locs 0 0 (MQ below (gQv G (fun (u : (Nat → Int32)) => post u) (fun (u : (Nat → Int32)) => [cMO hMO mo_thrown mo_size hTM mo_isBoard mo_width mo_height mo_person mo_moves mo_pushes mo_floor mo_goals mo_boxes mo_newFloor mo_newGoals mo_newBoxes mo_newPerson mo_newWidth mo_kept hDO mo_many mo_taken mo_length hXB hXC hXF hXY hXS hXP hFA hLE, cI G hFA 64 u]) A) args s 0 0 A) (F0 m 73 ls []) := by
  intro n
  induction n with
  | zero => intro aFA v2 v3 v4 H locs ls h _ _ _ _; exact h.elim
  | succ n ih =>
    intro aFA v2 v3 v4 H locs ls h hP hD hS hl
    unfold MO_measure_73 at h
    refine lv_iload X.1 X.2.1 dX6_measure_73 (lv_at hl 3 rfl) ?_
    refine lv_iconst (v := (4 : Int32)) X.1 X.2.1 dX6_measure_75 (by decide) ?_
    refine lv_icmp_ge (tgt := 147) X.1 X.2.1 dX6_measure_76 (by decide) (fun hc => ?_) (fun hc => ?_)
    · replace h := Eq.mp (if_pos hc) h
      refine lv_iinc (v := (v3 + (1 : Int32))) (lv' := [(3, .int (v3 + (1 : Int32))), (0, .ref hMO), (2, .int v2), (4, .int v4)]) X.1 X.2.1 dX6_measure_147 hl (k := 2) rfl rfl (by decide) rfl (fun ls hl => ?_)
      refine lv_goto (tgt := 51) X.1 X.2.1 dX6_measure_150 (by decide) ?_
      exact hk51 aFA v2 (v3 + (1 : Int32)) _ _ _ h hP hD hS (lv_sub hl [1, 2, 0] rfl)
    · replace h := Eq.mp (if_neg hc) h
      refine lv_aload_n X.1 X.2.1 dX6_measure_79 rfl (lv_at hl 0 rfl) ?_
      refine lv_iload_n X.1 X.2.1 dX6_measure_80 rfl (lv_at hl 2 rfl) ?_
      refine lv_iload X.1 X.2.1 dX6_measure_81 (lv_at hl 3 rfl) ?_
      refine g_ci (wr := [cI G hFA 64 aFA]) X [0] [1] (g_rV (As := [.int v3, .int v4]) (rest := []) X (c_MO_beside l G hMO hTM hDO hXB hXC hXF hXY hXS hXP hFA hLE mo_thrown mo_size mo_isBoard mo_width mo_height mo_person mo_moves mo_pushes mo_floor mo_goals mo_boxes mo_newFloor mo_newGoals mo_newBoxes mo_newPerson mo_newWidth mo_kept mo_many mo_taken mo_length v3 v4 _ h _) lk_X6_112 rfl rfl ⟨Nat.le_of_ble_eq_true rfl, Nat.le_of_ble_eq_true rfl⟩ hP hD hS [0] rfl rfl 0 6 rfl rfl rfl hl.1 rfl (Nat.le_of_ble_eq_true rfl) dX6_measure_83 ⟨Nat.le_of_ble_eq_true rfl, Nat.le_of_ble_eq_true rfl⟩) hP hD hS rfl rfl rfl (by decide) (fun r_1 u H locs h hP hD hS => ?_)
      try dsimp only at h
      replace hP := hP.sub (ws' := [cMO hMO mo_thrown mo_size hTM mo_isBoard mo_width mo_height mo_person mo_moves mo_pushes mo_floor mo_goals mo_boxes mo_newFloor mo_newGoals mo_newBoxes mo_newPerson mo_newWidth mo_kept hDO mo_many mo_taken mo_length hXB hXC hXF hXY hXS hXP hFA hLE, cI G hFA 64 aFA]) [1, 0] rfl
      replace hD := hD.sub (ws' := [cMO hMO mo_thrown mo_size hTM mo_isBoard mo_width mo_height mo_person mo_moves mo_pushes mo_floor mo_goals mo_boxes mo_newFloor mo_newGoals mo_newBoxes mo_newPerson mo_newWidth mo_kept hDO mo_many mo_taken mo_length hXB hXC hXF hXY hXS hXP hFA hLE, cI G hFA 64 aFA]) [1, 0] rfl rfl
      refine lv_istore (lv' := [(5, .int r_1), (0, .ref hMO), (2, .int v2), (3, .int v3), (4, .int v4)]) X.1 X.2.1 dX6_measure_86 hl (by decide) rfl (fun ls hl => ?_)
      refine lv_aload_n X.1 X.2.1 dX6_measure_88 rfl (lv_at hl 1 rfl) ?_
      refine g_get X hP 0 6 9 (v := .long mo_floor) rfl rfl inX6 (by decide) fl_X6_87 rfl dX6_measure_89 ?_
      refine lv_iload X.1 X.2.1 dX6_measure_92 (lv_at hl 0 rfl) ?_
      refine g_ci (wr := [cMO hMO mo_thrown mo_size hTM mo_isBoard mo_width mo_height mo_person mo_moves mo_pushes mo_floor mo_goals mo_boxes mo_newFloor mo_newGoals mo_newBoxes mo_newPerson mo_newWidth mo_kept hDO mo_many mo_taken mo_length hXB hXC hXF hXY hXS hXP hFA hLE, cI G hFA 64 aFA]) X [] [0, 1] (g_rS (As := [.long mo_floor, .int r_1]) (rest := []) X (c_MO_has l G mo_floor r_1 _ h _) lk_X6_90 rfl rfl ⟨Nat.le_of_ble_eq_true rfl, Nat.le_of_ble_eq_true rfl⟩ hP hD hS [] rfl rfl rfl hl.1 rfl (Nat.le_of_ble_eq_true rfl) dX6_measure_94 ⟨Nat.le_of_ble_eq_true rfl, Nat.le_of_ble_eq_true rfl⟩) hP hD hS rfl rfl rfl (by decide) (fun r_2 u H locs h hP hD hS => ?_)
      try dsimp only at h
      replace hP := hP.sub (ws' := [cMO hMO mo_thrown mo_size hTM mo_isBoard mo_width mo_height mo_person mo_moves mo_pushes mo_floor mo_goals mo_boxes mo_newFloor mo_newGoals mo_newBoxes mo_newPerson mo_newWidth mo_kept hDO mo_many mo_taken mo_length hXB hXC hXF hXY hXS hXP hFA hLE, cI G hFA 64 aFA]) [0, 1] rfl
      replace hD := hD.sub (ws' := [cMO hMO mo_thrown mo_size hTM mo_isBoard mo_width mo_height mo_person mo_moves mo_pushes mo_floor mo_goals mo_boxes mo_newFloor mo_newGoals mo_newBoxes mo_newPerson mo_newWidth mo_kept hDO mo_many mo_taken mo_length hXB hXC hXF hXY hXS hXP hFA hLE, cI G hFA 64 aFA]) [0, 1] rfl rfl
      refine lv_if_eq (tgt := 141) X.1 X.2.1 dX6_measure_97 (by decide) (fun hc => ?_) (fun hc => ?_)
      · replace h := Eq.mp (if_pos hc) h
        refine lv_iinc (v := (v4 + (1 : Int32))) (lv' := [(4, .int (v4 + (1 : Int32))), (5, .int r_1), (0, .ref hMO), (2, .int v2), (3, .int v3)]) X.1 X.2.1 dX6_measure_141 hl (k := 4) rfl rfl (by decide) rfl (fun ls hl => ?_)
        refine lv_goto (tgt := 73) X.1 X.2.1 dX6_measure_144 (by decide) ?_
        exact ih aFA v2 v3 (v4 + (1 : Int32)) _ _ _ h hP hD hS (lv_sub hl [2, 3, 4, 0] rfl)
      · replace h := Eq.mp (if_neg hc) h
        refine lv_aload_n X.1 X.2.1 dX6_measure_100 rfl (lv_at hl 1 rfl) ?_
        refine g_get X hP 0 6 28 (v := .ref hFA) rfl rfl inX6 (by decide) fl_X6_36 rfl dX6_measure_101 ?_
        refine lv_iload X.1 X.2.1 dX6_measure_104 (lv_at hl 0 rfl) ?_
        obtain ⟨hin, h⟩ := h
        refine va_iald (D := G.1) X.1 X.2.1 X.k.1 hP 1 0 rfl rfl hin dX6_measure_106 ?_
        refine lv_if_ge (tgt := 141) X.1 X.2.1 dX6_measure_107 (by decide) (fun hc => ?_) (fun hc => ?_)
        · replace h := Eq.mp (if_pos hc) h
          refine lv_iinc (v := (v4 + (1 : Int32))) (lv' := [(4, .int (v4 + (1 : Int32))), (5, .int r_1), (0, .ref hMO), (2, .int v2), (3, .int v3)]) X.1 X.2.1 dX6_measure_141 hl (k := 4) rfl rfl (by decide) rfl (fun ls hl => ?_)
          refine lv_goto (tgt := 73) X.1 X.2.1 dX6_measure_144 (by decide) ?_
          exact ih aFA v2 v3 (v4 + (1 : Int32)) _ _ _ h hP hD hS (lv_sub hl [2, 3, 4, 0] rfl)
        · replace h := Eq.mp (if_neg hc) h
          refine lv_aload_n X.1 X.2.1 dX6_measure_110 rfl (lv_at hl 1 rfl) ?_
          refine g_get X hP 0 6 9 (v := .long mo_floor) rfl rfl inX6 (by decide) fl_X6_87 rfl dX6_measure_111 ?_
          refine lv_aload_n X.1 X.2.1 dX6_measure_114 rfl (lv_at hl 1 rfl) ?_
          refine lv_iload_n X.1 X.2.1 dX6_measure_115 rfl (lv_at hl 3 rfl) ?_
          refine lv_aload_n X.1 X.2.1 dX6_measure_116 rfl (lv_at hl 1 rfl) ?_
          refine lv_iload X.1 X.2.1 dX6_measure_117 (lv_at hl 4 rfl) ?_
          refine g_ci (wr := [cI G hFA 64 aFA]) X [0] [1] (g_rV (As := [.int v4]) (rest := [.int v3, .ref hMO, .long mo_floor]) X (c_MO_against l G hMO hTM hDO hXB hXC hXF hXY hXS hXP hFA hLE mo_thrown mo_size mo_isBoard mo_width mo_height mo_person mo_moves mo_pushes mo_floor mo_goals mo_boxes mo_newFloor mo_newGoals mo_newBoxes mo_newPerson mo_newWidth mo_kept mo_many mo_taken mo_length v4 _ h _) lk_X6_126 rfl rfl ⟨Nat.le_of_ble_eq_true rfl, Nat.le_of_ble_eq_true rfl⟩ hP hD hS [0] rfl rfl 0 6 rfl rfl rfl hl.1 rfl (Nat.le_of_ble_eq_true rfl) dX6_measure_119 ⟨Nat.le_of_ble_eq_true rfl, Nat.le_of_ble_eq_true rfl⟩) hP hD hS rfl rfl rfl (by decide) (fun r_3 u H locs h hP hD hS => ?_)
          try dsimp only at h
          replace hP := hP.sub (ws' := [cMO hMO mo_thrown mo_size hTM mo_isBoard mo_width mo_height mo_person mo_moves mo_pushes mo_floor mo_goals mo_boxes mo_newFloor mo_newGoals mo_newBoxes mo_newPerson mo_newWidth mo_kept hDO mo_many mo_taken mo_length hXB hXC hXF hXY hXS hXP hFA hLE, cI G hFA 64 aFA]) [1, 0] rfl
          replace hD := hD.sub (ws' := [cMO hMO mo_thrown mo_size hTM mo_isBoard mo_width mo_height mo_person mo_moves mo_pushes mo_floor mo_goals mo_boxes mo_newFloor mo_newGoals mo_newBoxes mo_newPerson mo_newWidth mo_kept hDO mo_many mo_taken mo_length hXB hXC hXF hXY hXS hXP hFA hLE, cI G hFA 64 aFA]) [1, 0] rfl rfl
          refine g_ci (wr := [cI G hFA 64 aFA]) X [0] [1] (g_rV (As := [.int v3, .int r_3]) (rest := [.long mo_floor]) X (c_MO_beside l G hMO hTM hDO hXB hXC hXF hXY hXS hXP hFA hLE mo_thrown mo_size mo_isBoard mo_width mo_height mo_person mo_moves mo_pushes mo_floor mo_goals mo_boxes mo_newFloor mo_newGoals mo_newBoxes mo_newPerson mo_newWidth mo_kept mo_many mo_taken mo_length v3 r_3 _ h _) lk_X6_112 rfl rfl ⟨Nat.le_of_ble_eq_true rfl, Nat.le_of_ble_eq_true rfl⟩ hP hD hS [0] rfl rfl 0 6 rfl rfl rfl hl.1 rfl (Nat.le_of_ble_eq_true rfl) dX6_measure_122 ⟨Nat.le_of_ble_eq_true rfl, Nat.le_of_ble_eq_true rfl⟩) hP hD hS rfl rfl rfl (by decide) (fun r_4 u H locs h hP hD hS => ?_)
          try dsimp only at h
          replace hP := hP.sub (ws' := [cMO hMO mo_thrown mo_size hTM mo_isBoard mo_width mo_height mo_person mo_moves mo_pushes mo_floor mo_goals mo_boxes mo_newFloor mo_newGoals mo_newBoxes mo_newPerson mo_newWidth mo_kept hDO mo_many mo_taken mo_length hXB hXC hXF hXY hXS hXP hFA hLE, cI G hFA 64 aFA]) [1, 0] rfl
          replace hD := hD.sub (ws' := [cMO hMO mo_thrown mo_size hTM mo_isBoard mo_width mo_height mo_person mo_moves mo_pushes mo_floor mo_goals mo_boxes mo_newFloor mo_newGoals mo_newBoxes mo_newPerson mo_newWidth mo_kept hDO mo_many mo_taken mo_length hXB hXC hXF hXY hXS hXP hFA hLE, cI G hFA 64 aFA]) [1, 0] rfl rfl
          refine g_ci (wr := [cMO hMO mo_thrown mo_size hTM mo_isBoard mo_width mo_height mo_person mo_moves mo_pushes mo_floor mo_goals mo_boxes mo_newFloor mo_newGoals mo_newBoxes mo_newPerson mo_newWidth mo_kept hDO mo_many mo_taken mo_length hXB hXC hXF hXY hXS hXP hFA hLE, cI G hFA 64 aFA]) X [] [0, 1] (g_rS (As := [.long mo_floor, .int r_4]) (rest := []) X (c_MO_has l G mo_floor r_4 _ h _) lk_X6_90 rfl rfl ⟨Nat.le_of_ble_eq_true rfl, Nat.le_of_ble_eq_true rfl⟩ hP hD hS [] rfl rfl rfl hl.1 rfl (Nat.le_of_ble_eq_true rfl) dX6_measure_125 ⟨Nat.le_of_ble_eq_true rfl, Nat.le_of_ble_eq_true rfl⟩) hP hD hS rfl rfl rfl (by decide) (fun r_5 u H locs h hP hD hS => ?_)
          try dsimp only at h
          replace hP := hP.sub (ws' := [cMO hMO mo_thrown mo_size hTM mo_isBoard mo_width mo_height mo_person mo_moves mo_pushes mo_floor mo_goals mo_boxes mo_newFloor mo_newGoals mo_newBoxes mo_newPerson mo_newWidth mo_kept hDO mo_many mo_taken mo_length hXB hXC hXF hXY hXS hXP hFA hLE, cI G hFA 64 aFA]) [0, 1] rfl
          replace hD := hD.sub (ws' := [cMO hMO mo_thrown mo_size hTM mo_isBoard mo_width mo_height mo_person mo_moves mo_pushes mo_floor mo_goals mo_boxes mo_newFloor mo_newGoals mo_newBoxes mo_newPerson mo_newWidth mo_kept hDO mo_many mo_taken mo_length hXB hXC hXF hXY hXS hXP hFA hLE, cI G hFA 64 aFA]) [0, 1] rfl rfl
          refine lv_if_eq (tgt := 141) X.1 X.2.1 dX6_measure_128 (by decide) (fun hc => ?_) (fun hc => ?_)
          · replace h := Eq.mp (if_pos hc) h
            refine lv_iinc (v := (v4 + (1 : Int32))) (lv' := [(4, .int (v4 + (1 : Int32))), (5, .int r_1), (0, .ref hMO), (2, .int v2), (3, .int v3)]) X.1 X.2.1 dX6_measure_141 hl (k := 4) rfl rfl (by decide) rfl (fun ls hl => ?_)
            refine lv_goto (tgt := 73) X.1 X.2.1 dX6_measure_144 (by decide) ?_
            exact ih aFA v2 v3 (v4 + (1 : Int32)) _ _ _ h hP hD hS (lv_sub hl [2, 3, 4, 0] rfl)
          · replace h := Eq.mp (if_neg hc) h
            refine lv_aload_n X.1 X.2.1 dX6_measure_131 rfl (lv_at hl 1 rfl) ?_
            refine g_get X hP 0 6 28 (v := .ref hFA) rfl rfl inX6 (by decide) fl_X6_36 rfl dX6_measure_132 ?_
            refine lv_iload X.1 X.2.1 dX6_measure_135 (lv_at hl 0 rfl) ?_
            refine lv_iload_n X.1 X.2.1 dX6_measure_137 rfl (lv_at hl 2 rfl) ?_
            refine lv_iconst (v := (1 : Int32)) X.1 X.2.1 dX6_measure_138 (by decide) ?_
            refine lv_iadd X.1 X.2.1 dX6_measure_139 ?_
            refine lv_topi (fun x_6 e_x_6 => ?_)
            replace h := h x_6 e_x_6
            obtain ⟨hin, h⟩ := h
            refine g_ist X hP hD hS 1 rfl hin dX6_measure_140 (fun aFA_7 e_aFA_7 H locs hP hD hS => ?_)
            replace h := h aFA_7 e_aFA_7
            replace hP : va_P G.1 gCl [cMO hMO mo_thrown mo_size hTM mo_isBoard mo_width mo_height mo_person mo_moves mo_pushes mo_floor mo_goals mo_boxes mo_newFloor mo_newGoals mo_newBoxes mo_newPerson mo_newWidth mo_kept hDO mo_many mo_taken mo_length hXB hXC hXF hXY hXS hXP hFA hLE, cI G hFA 64 aFA_7] H := hP
            replace hD : va_D A [cMO hMO mo_thrown mo_size hTM mo_isBoard mo_width mo_height mo_person mo_moves mo_pushes mo_floor mo_goals mo_boxes mo_newFloor mo_newGoals mo_newBoxes mo_newPerson mo_newWidth mo_kept hDO mo_many mo_taken mo_length hXB hXC hXF hXY hXS hXP hFA hLE, cI G hFA 64 aFA_7] := hD
            refine lv_iinc (v := (v4 + (1 : Int32))) (lv' := [(4, .int (v4 + (1 : Int32))), (5, .int r_1), (0, .ref hMO), (2, .int v2), (3, .int v3)]) X.1 X.2.1 dX6_measure_141 hl (k := 4) rfl rfl (by decide) rfl (fun ls hl => ?_)
            refine lv_goto (tgt := 73) X.1 X.2.1 dX6_measure_144 (by decide) ?_
            exact ih aFA_7 v2 v3 (v4 + (1 : Int32)) _ _ _ h hP hD hS (lv_sub hl [2, 3, 4, 0] rfl)
set_option maxHeartbeats 4000000 in
set_option maxRecDepth 100000 in
theorem s_MO_measure_51 {p : Program} {l : Launch} {e : Env} {s : State} {m : MethodId} {args : Array Value} {below : List Frame} {meth : Method} {c : Code} {G : gEnv} {A : Nat → Prop} {hMO : Nat} {hTM : Nat} {hDO : Nat} {hXB : Nat} {hXC : Nat} {hXF : Nat} {hXY : Nat} {hXS : Nat} {hXP : Nat} {hFA : Nat} {hLE : Nat} {mo_thrown : Int32} {mo_size : Int32} {mo_isBoard : Int32} {mo_person : Int32} {mo_moves : Int32} {mo_pushes : Int32} {mo_goals : Int64} {mo_boxes : Int64} {mo_newFloor : Int64} {mo_newGoals : Int64} {mo_newBoxes : Int64} {mo_newPerson : Int32} {mo_newWidth : Int32} {mo_kept : Int32} {mo_many : Int32} {mo_taken : Int32} {mo_length : Int32} {mo_width : Int32} {mo_height : Int32} {mo_floor : Int64} {k43 : (Nat → Int32) → Int32 → Prop} {post : (Nat → Int32) → Prop} (X : gX p m meth c cX6_measure 6 RX6 none s args G A) (hk43 : ∀ (aFA' : (Nat → Int32)) (v2' : Int32) (H : Heap) (locs : List Loc) (ls : Array Slot), k43 aFA' v2' → va_P G.1 gCl [cMO hMO mo_thrown mo_size hTM mo_isBoard mo_width mo_height mo_person mo_moves mo_pushes mo_floor mo_goals mo_boxes mo_newFloor mo_newGoals mo_newBoxes mo_newPerson mo_newWidth mo_kept hDO mo_many mo_taken mo_length hXB hXC hXF hXY hXS hXP hFA hLE, cI G hFA 64 aFA'] H → va_D A [cMO hMO mo_thrown mo_size hTM mo_isBoard mo_width mo_height mo_person mo_moves mo_pushes mo_floor mo_goals mo_boxes mo_newFloor mo_newGoals mo_newBoxes mo_newPerson mo_newWidth mo_kept hDO mo_many mo_taken mo_length hXB hXC hXF hXY hXS hXP hFA hLE, cI G hFA 64 aFA'] → va_S A s.heap H locs → lv_has ls 6 [(0, .ref hMO), (2, .int v2')] → W p l e rm_MO_measure s m args below meth c H locs 0 0 (MQ below (gQv G (fun (u : (Nat → Int32)) => post u) (fun (u : (Nat → Int32)) => [cMO hMO mo_thrown mo_size hTM mo_isBoard mo_width mo_height mo_person mo_moves mo_pushes mo_floor mo_goals mo_boxes mo_newFloor mo_newGoals mo_newBoxes mo_newPerson mo_newWidth mo_kept hDO mo_many mo_taken mo_length hXB hXC hXF hXY hXS hXP hFA hLE, cI G hFA 64 u]) A) args s 0 0 A) (F0 m 43 ls [])) : ∀ (n : Nat) (aFA : (Nat → Int32)) (v2 : Int32) (v3 : Int32) (H : Heap) (locs : List Loc) (ls : Array Slot), MO_measure_51 mo_width mo_height mo_floor k43 post n aFA v2 v3 → va_P G.1 gCl [cMO hMO mo_thrown mo_size hTM mo_isBoard mo_width mo_height mo_person mo_moves mo_pushes mo_floor mo_goals mo_boxes mo_newFloor mo_newGoals mo_newBoxes mo_newPerson mo_newWidth mo_kept hDO mo_many mo_taken mo_length hXB hXC hXF hXY hXS hXP hFA hLE, cI G hFA 64 aFA] H → va_D A [cMO hMO mo_thrown mo_size hTM mo_isBoard mo_width mo_height mo_person mo_moves mo_pushes mo_floor mo_goals mo_boxes mo_newFloor mo_newGoals mo_newBoxes mo_newPerson mo_newWidth mo_kept hDO mo_many mo_taken mo_length hXB hXC hXF hXY hXS hXP hFA hLE, cI G hFA 64 aFA] → va_S A s.heap H locs → lv_has ls 6 [(0, .ref hMO), (2, .int v2), (3, .int v3)] → W p l e rm_MO_measure s m args below meth c H locs 0 0 (MQ below (gQv G (fun (u : (Nat → Int32)) => post u) (fun (u : (Nat → Int32)) => [cMO hMO mo_thrown mo_size hTM mo_isBoard mo_width mo_height mo_person mo_moves mo_pushes mo_floor mo_goals mo_boxes mo_newFloor mo_newGoals mo_newBoxes mo_newPerson mo_newWidth mo_kept hDO mo_many mo_taken mo_length hXB hXC hXF hXY hXS hXP hFA hLE, cI G hFA 64 u]) A) args s 0 0 A) (F0 m 51 ls []) := by
  intro n
  induction n with
  | zero => intro aFA v2 v3 H locs ls h _ _ _ _; exact h.elim
  | succ n ih =>
    intro aFA v2 v3 H locs ls h hP hD hS hl
    unfold MO_measure_51 at h
    refine lv_iload_n X.1 X.2.1 dX6_measure_51 rfl (lv_at hl 2 rfl) ?_
    refine lv_bipush (v := (64 : Int32)) X.1 X.2.1 dX6_measure_52 (by decide) ?_
    refine lv_icmp_ge (tgt := 153) X.1 X.2.1 dX6_measure_54 (by decide) (fun hc => ?_) (fun hc => ?_)
    · replace h := Eq.mp (if_pos hc) h
      refine lv_iinc (v := (v2 + (1 : Int32))) (lv' := [(2, .int (v2 + (1 : Int32))), (0, .ref hMO), (3, .int v3)]) X.1 X.2.1 dX6_measure_153 hl (k := 1) rfl rfl (by decide) rfl (fun ls hl => ?_)
      refine lv_goto (tgt := 43) X.1 X.2.1 dX6_measure_156 (by decide) ?_
      exact hk43 aFA (v2 + (1 : Int32)) _ _ _ h hP hD hS (lv_sub hl [1, 0] rfl)
    · replace h := Eq.mp (if_neg hc) h
      refine lv_aload_n X.1 X.2.1 dX6_measure_57 rfl (lv_at hl 0 rfl) ?_
      refine g_get X hP 0 6 28 (v := .ref hFA) rfl rfl inX6 (by decide) fl_X6_36 rfl dX6_measure_58 ?_
      refine lv_iload_n X.1 X.2.1 dX6_measure_61 rfl (lv_at hl 2 rfl) ?_
      obtain ⟨hin, h⟩ := h
      refine va_iald (D := G.1) X.1 X.2.1 X.k.1 hP 1 0 rfl rfl hin dX6_measure_62 ?_
      refine lv_iload_n X.1 X.2.1 dX6_measure_63 rfl (lv_at hl 1 rfl) ?_
      refine lv_icmp_eq (tgt := 70) X.1 X.2.1 dX6_measure_64 (by decide) (fun hc => ?_) (fun hc => ?_)
      · replace h := Eq.mp (if_pos hc) h
        refine lv_iconst (v := (0 : Int32)) X.1 X.2.1 dX6_measure_70 (by decide) ?_
        refine lv_istore (lv' := [(4, .int (0 : Int32)), (0, .ref hMO), (2, .int v2), (3, .int v3)]) X.1 X.2.1 dX6_measure_71 hl (by decide) rfl (fun ls hl => ?_)
        obtain ⟨n', h⟩ := h
        exact s_MO_measure_73 X (fun aFA' v2' v3' H' locs' ls' h' hP' hD' hS' hl' => ih aFA' v2' v3' H' locs' ls' h' hP' hD' hS' hl') n' aFA v2 v3 (0 : Int32) _ _ _ h hP hD hS (lv_sub hl [1, 2, 3, 0] rfl)
      · replace h := Eq.mp (if_neg hc) h
        refine lv_goto (tgt := 147) X.1 X.2.1 dX6_measure_67 (by decide) ?_
        refine lv_iinc (v := (v3 + (1 : Int32))) (lv' := [(3, .int (v3 + (1 : Int32))), (0, .ref hMO), (2, .int v2)]) X.1 X.2.1 dX6_measure_147 hl (k := 2) rfl rfl (by decide) rfl (fun ls hl => ?_)
        refine lv_goto (tgt := 51) X.1 X.2.1 dX6_measure_150 (by decide) ?_
        exact ih aFA v2 (v3 + (1 : Int32)) _ _ _ h hP hD hS (lv_sub hl [1, 2, 0] rfl)
set_option maxHeartbeats 4000000 in
set_option maxRecDepth 100000 in
theorem s_MO_measure_43 {p : Program} {l : Launch} {e : Env} {s : State} {m : MethodId} {args : Array Value} {below : List Frame} {meth : Method} {c : Code} {G : gEnv} {A : Nat → Prop} {hMO : Nat} {hTM : Nat} {hDO : Nat} {hXB : Nat} {hXC : Nat} {hXF : Nat} {hXY : Nat} {hXS : Nat} {hXP : Nat} {hFA : Nat} {hLE : Nat} {mo_thrown : Int32} {mo_size : Int32} {mo_isBoard : Int32} {mo_person : Int32} {mo_moves : Int32} {mo_pushes : Int32} {mo_goals : Int64} {mo_boxes : Int64} {mo_newFloor : Int64} {mo_newGoals : Int64} {mo_newBoxes : Int64} {mo_newPerson : Int32} {mo_newWidth : Int32} {mo_kept : Int32} {mo_many : Int32} {mo_taken : Int32} {mo_length : Int32} {mo_width : Int32} {mo_height : Int32} {mo_floor : Int64} {post : (Nat → Int32) → Prop} (X : gX p m meth c cX6_measure 6 RX6 none s args G A)  : ∀ (n : Nat) (aFA : (Nat → Int32)) (v2 : Int32) (H : Heap) (locs : List Loc) (ls : Array Slot), MO_measure_43 mo_width mo_height mo_floor post n aFA v2 → va_P G.1 gCl [cMO hMO mo_thrown mo_size hTM mo_isBoard mo_width mo_height mo_person mo_moves mo_pushes mo_floor mo_goals mo_boxes mo_newFloor mo_newGoals mo_newBoxes mo_newPerson mo_newWidth mo_kept hDO mo_many mo_taken mo_length hXB hXC hXF hXY hXS hXP hFA hLE, cI G hFA 64 aFA] H → va_D A [cMO hMO mo_thrown mo_size hTM mo_isBoard mo_width mo_height mo_person mo_moves mo_pushes mo_floor mo_goals mo_boxes mo_newFloor mo_newGoals mo_newBoxes mo_newPerson mo_newWidth mo_kept hDO mo_many mo_taken mo_length hXB hXC hXF hXY hXS hXP hFA hLE, cI G hFA 64 aFA] → va_S A s.heap H locs → lv_has ls 6 [(0, .ref hMO), (2, .int v2)] → W p l e rm_MO_measure s m args below meth c H locs 0 0 (MQ below (gQv G (fun (u : (Nat → Int32)) => post u) (fun (u : (Nat → Int32)) => [cMO hMO mo_thrown mo_size hTM mo_isBoard mo_width mo_height mo_person mo_moves mo_pushes mo_floor mo_goals mo_boxes mo_newFloor mo_newGoals mo_newBoxes mo_newPerson mo_newWidth mo_kept hDO mo_many mo_taken mo_length hXB hXC hXF hXY hXS hXP hFA hLE, cI G hFA 64 u]) A) args s 0 0 A) (F0 m 43 ls []) := by
  intro n
  induction n with
  | zero => intro aFA v2 H locs ls h _ _ _ _; exact h.elim
  | succ n ih =>
    intro aFA v2 H locs ls h hP hD hS hl
    unfold MO_measure_43 at h
    refine lv_iload_n X.1 X.2.1 dX6_measure_43 rfl (lv_at hl 1 rfl) ?_
    refine lv_bipush (v := (64 : Int32)) X.1 X.2.1 dX6_measure_44 (by decide) ?_
    refine lv_icmp_ge (tgt := 159) X.1 X.2.1 dX6_measure_46 (by decide) (fun hc => ?_) (fun hc => ?_)
    · replace h := Eq.mp (if_pos hc) h
      exact g_vret X aFA h hP hD hS dX6_measure_159
    · replace h := Eq.mp (if_neg hc) h
      refine lv_iconst (v := (0 : Int32)) X.1 X.2.1 dX6_measure_49 (by decide) ?_
      refine lv_istore_n (lv' := [(3, .int (0 : Int32)), (0, .ref hMO), (2, .int v2)]) X.1 X.2.1 dX6_measure_50 rfl hl (by decide) rfl (fun ls hl => ?_)
      obtain ⟨n', h⟩ := h
      exact s_MO_measure_51 X (fun aFA' v2' H' locs' ls' h' hP' hD' hS' hl' => ih aFA' v2' H' locs' ls' h' hP' hD' hS' hl') n' aFA v2 (0 : Int32) _ _ _ h hP hD hS (lv_sub hl [1, 2, 0] rfl)
set_option maxHeartbeats 4000000 in
set_option maxRecDepth 100000 in
theorem s_MO_measure_2 {p : Program} {l : Launch} {e : Env} {s : State} {m : MethodId} {args : Array Value} {below : List Frame} {meth : Method} {c : Code} {G : gEnv} {A : Nat → Prop} {hMO : Nat} {hTM : Nat} {hDO : Nat} {hXB : Nat} {hXC : Nat} {hXF : Nat} {hXY : Nat} {hXS : Nat} {hXP : Nat} {hFA : Nat} {hLE : Nat} {mo_thrown : Int32} {mo_size : Int32} {mo_isBoard : Int32} {mo_person : Int32} {mo_moves : Int32} {mo_pushes : Int32} {mo_goals : Int64} {mo_boxes : Int64} {mo_newFloor : Int64} {mo_newGoals : Int64} {mo_newBoxes : Int64} {mo_newPerson : Int32} {mo_newWidth : Int32} {mo_kept : Int32} {mo_many : Int32} {mo_taken : Int32} {mo_length : Int32} {mo_width : Int32} {mo_height : Int32} {mo_floor : Int64} {post : (Nat → Int32) → Prop} (X : gX p m meth c cX6_measure 6 RX6 none s args G A)  : ∀ (n : Nat) (aFA : (Nat → Int32)) (v1 : Int32) (v2 : Int32) (H : Heap) (locs : List Loc) (ls : Array Slot), MO_measure_2 mo_width mo_height mo_floor post n aFA v1 v2 → va_P G.1 gCl [cMO hMO mo_thrown mo_size hTM mo_isBoard mo_width mo_height mo_person mo_moves mo_pushes mo_floor mo_goals mo_boxes mo_newFloor mo_newGoals mo_newBoxes mo_newPerson mo_newWidth mo_kept hDO mo_many mo_taken mo_length hXB hXC hXF hXY hXS hXP hFA hLE, cI G hFA 64 aFA] H → va_D A [cMO hMO mo_thrown mo_size hTM mo_isBoard mo_width mo_height mo_person mo_moves mo_pushes mo_floor mo_goals mo_boxes mo_newFloor mo_newGoals mo_newBoxes mo_newPerson mo_newWidth mo_kept hDO mo_many mo_taken mo_length hXB hXC hXF hXY hXS hXP hFA hLE, cI G hFA 64 aFA] → va_S A s.heap H locs → lv_has ls 6 [(0, .ref hMO), (1, .int v1), (2, .int v2)] → W p l e rm_MO_measure s m args below meth c H locs 0 0 (MQ below (gQv G (fun (u : (Nat → Int32)) => post u) (fun (u : (Nat → Int32)) => [cMO hMO mo_thrown mo_size hTM mo_isBoard mo_width mo_height mo_person mo_moves mo_pushes mo_floor mo_goals mo_boxes mo_newFloor mo_newGoals mo_newBoxes mo_newPerson mo_newWidth mo_kept hDO mo_many mo_taken mo_length hXB hXC hXF hXY hXS hXP hFA hLE, cI G hFA 64 u]) A) args s 0 0 A) (F0 m 2 ls []) := by
  intro n
  induction n with
  | zero => intro aFA v1 v2 H locs ls h _ _ _ _; exact h.elim
  | succ n ih =>
    intro aFA v1 v2 H locs ls h hP hD hS hl
    unfold MO_measure_2 at h
    refine lv_iload_n X.1 X.2.1 dX6_measure_2 rfl (lv_at hl 2 rfl) ?_
    refine lv_bipush (v := (64 : Int32)) X.1 X.2.1 dX6_measure_3 (by decide) ?_
    refine lv_icmp_ge (tgt := 41) X.1 X.2.1 dX6_measure_5 (by decide) (fun hc => ?_) (fun hc => ?_)
    · replace h := Eq.mp (if_pos hc) h
      refine lv_iconst (v := (0 : Int32)) X.1 X.2.1 dX6_measure_41 (by decide) ?_
      refine lv_istore_n (lv' := [(2, .int (0 : Int32)), (0, .ref hMO), (1, .int v1)]) X.1 X.2.1 dX6_measure_42 rfl hl (by decide) rfl (fun ls hl => ?_)
      obtain ⟨n', h⟩ := h
      exact s_MO_measure_43 X  n' aFA (0 : Int32) _ _ _ h hP hD hS (lv_sub hl [1, 0] rfl)
    · replace h := Eq.mp (if_neg hc) h
      refine lv_aload_n X.1 X.2.1 dX6_measure_8 rfl (lv_at hl 0 rfl) ?_
      refine g_get X hP 0 6 28 (v := .ref hFA) rfl rfl inX6 (by decide) fl_X6_36 rfl dX6_measure_9 ?_
      refine lv_iload_n X.1 X.2.1 dX6_measure_12 rfl (lv_at hl 2 rfl) ?_
      refine lv_iload_n X.1 X.2.1 dX6_measure_13 rfl (lv_at hl 2 rfl) ?_
      refine lv_iload_n X.1 X.2.1 dX6_measure_14 rfl (lv_at hl 1 rfl) ?_
      refine lv_icmp_ne (tgt := 33) X.1 X.2.1 dX6_measure_15 (by decide) (fun hc => ?_) (fun hc => ?_)
      · replace h := Eq.mp (if_neg hc) h
        exact s_MO_measure_33 X (fun aFA' v1' v2' H' locs' ls' h' hP' hD' hS' hl' => ih aFA' v1' v2' H' locs' ls' h' hP' hD' hS' hl') aFA v1 v2 v2 _ _ _ h hP hD hS (lv_sub hl [0, 1, 2] rfl)
      · replace h := Eq.mp (if_pos hc) h
        refine lv_aload_n X.1 X.2.1 dX6_measure_18 rfl (lv_at hl 0 rfl) ?_
        refine g_get X hP 0 6 9 (v := .long mo_floor) rfl rfl inX6 (by decide) fl_X6_87 rfl dX6_measure_19 ?_
        refine lv_iload_n X.1 X.2.1 dX6_measure_22 rfl (lv_at hl 2 rfl) ?_
        refine g_ci (wr := [cMO hMO mo_thrown mo_size hTM mo_isBoard mo_width mo_height mo_person mo_moves mo_pushes mo_floor mo_goals mo_boxes mo_newFloor mo_newGoals mo_newBoxes mo_newPerson mo_newWidth mo_kept hDO mo_many mo_taken mo_length hXB hXC hXF hXY hXS hXP hFA hLE, cI G hFA 64 aFA]) X [] [0, 1] (g_rS (As := [.long mo_floor, .int v2]) (rest := [.int v2, .ref hFA]) X (c_MO_has l G mo_floor v2 _ h _) lk_X6_90 rfl rfl ⟨Nat.le_of_ble_eq_true rfl, Nat.le_of_ble_eq_true rfl⟩ hP hD hS [] rfl rfl rfl hl.1 rfl (Nat.le_of_ble_eq_true rfl) dX6_measure_23 ⟨Nat.le_of_ble_eq_true rfl, Nat.le_of_ble_eq_true rfl⟩) hP hD hS rfl rfl rfl (by decide) (fun r_1 u H locs h hP hD hS => ?_)
        try dsimp only at h
        replace hP := hP.sub (ws' := [cMO hMO mo_thrown mo_size hTM mo_isBoard mo_width mo_height mo_person mo_moves mo_pushes mo_floor mo_goals mo_boxes mo_newFloor mo_newGoals mo_newBoxes mo_newPerson mo_newWidth mo_kept hDO mo_many mo_taken mo_length hXB hXC hXF hXY hXS hXP hFA hLE, cI G hFA 64 aFA]) [0, 1] rfl
        replace hD := hD.sub (ws' := [cMO hMO mo_thrown mo_size hTM mo_isBoard mo_width mo_height mo_person mo_moves mo_pushes mo_floor mo_goals mo_boxes mo_newFloor mo_newGoals mo_newBoxes mo_newPerson mo_newWidth mo_kept hDO mo_many mo_taken mo_length hXB hXC hXF hXY hXS hXP hFA hLE, cI G hFA 64 aFA]) [0, 1] rfl rfl
        refine lv_if_eq (tgt := 33) X.1 X.2.1 dX6_measure_26 (by decide) (fun hc => ?_) (fun hc => ?_)
        · replace h := Eq.mp (if_pos hc) h
          exact s_MO_measure_33 X (fun aFA' v1' v2' H' locs' ls' h' hP' hD' hS' hl' => ih aFA' v1' v2' H' locs' ls' h' hP' hD' hS' hl') aFA v1 v2 v2 _ _ _ h hP hD hS (lv_sub hl [0, 1, 2] rfl)
        · replace h := Eq.mp (if_neg hc) h
          refine lv_iconst (v := (0 : Int32)) X.1 X.2.1 dX6_measure_29 (by decide) ?_
          refine lv_goto (tgt := 34) X.1 X.2.1 dX6_measure_30 (by decide) ?_
          obtain ⟨hin, h⟩ := h
          refine g_ist X hP hD hS 1 rfl hin dX6_measure_34 (fun aFA_2 e_aFA_2 H locs hP hD hS => ?_)
          replace h := h aFA_2 e_aFA_2
          replace hP : va_P G.1 gCl [cMO hMO mo_thrown mo_size hTM mo_isBoard mo_width mo_height mo_person mo_moves mo_pushes mo_floor mo_goals mo_boxes mo_newFloor mo_newGoals mo_newBoxes mo_newPerson mo_newWidth mo_kept hDO mo_many mo_taken mo_length hXB hXC hXF hXY hXS hXP hFA hLE, cI G hFA 64 aFA_2] H := hP
          replace hD : va_D A [cMO hMO mo_thrown mo_size hTM mo_isBoard mo_width mo_height mo_person mo_moves mo_pushes mo_floor mo_goals mo_boxes mo_newFloor mo_newGoals mo_newBoxes mo_newPerson mo_newWidth mo_kept hDO mo_many mo_taken mo_length hXB hXC hXF hXY hXS hXP hFA hLE, cI G hFA 64 aFA_2] := hD
          refine lv_iinc (v := (v2 + (1 : Int32))) (lv' := [(2, .int (v2 + (1 : Int32))), (0, .ref hMO), (1, .int v1)]) X.1 X.2.1 dX6_measure_35 hl (k := 2) rfl rfl (by decide) rfl (fun ls hl => ?_)
          refine lv_goto (tgt := 2) X.1 X.2.1 dX6_measure_38 (by decide) ?_
          exact ih aFA_2 v1 (v2 + (1 : Int32)) _ _ _ h hP hD hS (lv_sub hl [1, 2, 0] rfl)
set_option maxHeartbeats 4000000 in
set_option maxRecDepth 100000 in
theorem c_MO_measure (l : Launch) (G : gEnv) (hMO : Nat) (hTM : Nat) (hDO : Nat) (hXB : Nat) (hXC : Nat) (hXF : Nat) (hXY : Nat) (hXS : Nat) (hXP : Nat) (hFA : Nat) (hLE : Nat) (mo_thrown : Int32) (mo_size : Int32) (mo_isBoard : Int32) (mo_width : Int32) (mo_height : Int32) (mo_person : Int32) (mo_moves : Int32) (mo_pushes : Int32) (mo_floor : Int64) (mo_goals : Int64) (mo_boxes : Int64) (mo_newFloor : Int64) (mo_newGoals : Int64) (mo_newBoxes : Int64) (mo_newPerson : Int32) (mo_newWidth : Int32) (mo_kept : Int32) (mo_many : Int32) (mo_taken : Int32) (mo_length : Int32) (aFA : Nat → Int32) (v1 : Int32) (post : (Nat → Int32) → Prop) (h : MO_measure mo_width mo_height mo_floor aFA v1 post) (sz : Nat) : Met l yX6_measure (Cond.code yX6_measure cX6_measure 6 none :: wAll) (rm_MO_measure) (gPc G [.ref hMO, .int v1] [cMO hMO mo_thrown mo_size hTM mo_isBoard mo_width mo_height mo_person mo_moves mo_pushes mo_floor mo_goals mo_boxes mo_newFloor mo_newGoals mo_newBoxes mo_newPerson mo_newWidth mo_kept hDO mo_many mo_taken mo_length hXB hXC hXF hXY hXS hXP hFA hLE, cI G hFA 64 aFA] sz) (gQv G (fun (u : (Nat → Int32)) => post u) (fun (u : (Nat → Int32)) => [cMO hMO mo_thrown mo_size hTM mo_isBoard mo_width mo_height mo_person mo_moves mo_pushes mo_floor mo_goals mo_boxes mo_newFloor mo_newGoals mo_newBoxes mo_newPerson mo_newWidth mo_kept hDO mo_many mo_taken mo_length hXB hXC hXF hXY hXS hXP hFA hLE, cI G hFA 64 u]) (va_A [cMO hMO mo_thrown mo_size hTM mo_isBoard mo_width mo_height mo_person mo_moves mo_pushes mo_floor mo_goals mo_boxes mo_newFloor mo_newGoals mo_newBoxes mo_newPerson mo_newWidth mo_kept hDO mo_many mo_taken mo_length hXB hXC hXF hXY hXS hXP hFA hLE, cI G hFA 64 aFA] sz)) 0 0 (va_A [cMO hMO mo_thrown mo_size hTM mo_isBoard mo_width mo_height mo_person mo_moves mo_pushes mo_floor mo_goals mo_boxes mo_newFloor mo_newGoals mo_newBoxes mo_newPerson mo_newWidth mo_kept hDO mo_many mo_taken mo_length hXB hXC hXF hXY hXS hXP hFA hLE, cI G hFA 64 aFA] sz) := by
  refine Met.ofW (cc := cX6_measure) (maxL := 6) (ret := none) (by decide) rfl ?_
  intro p e s m args below meth c s₁ B hml hv
  obtain ⟨rfl, hsz, hP, hK, hD0⟩ := hv
  subst hsz
  have X := gX.ofB (ws := [cMO hMO mo_thrown mo_size hTM mo_isBoard mo_width mo_height mo_person mo_moves mo_pushes mo_floor mo_goals mo_boxes mo_newFloor mo_newGoals mo_newBoxes mo_newPerson mo_newWidth mo_kept hDO mo_many mo_taken mo_length hXB hXC hXF hXY hXS hXP hFA hLE, cI G hFA 64 aFA]) B hml hK hD0
  have hD := hD0.self (sz := s.heap.size)
  generalize hAe : va_A [cMO hMO mo_thrown mo_size hTM mo_isBoard mo_width mo_height mo_person mo_moves mo_pushes mo_floor mo_goals mo_boxes mo_newFloor mo_newGoals mo_newBoxes mo_newPerson mo_newWidth mo_kept hDO mo_many mo_taken mo_length hXB hXC hXF hXY hXS hXP hFA hLE, cI G hFA 64 aFA] s.heap.size = A at X hD ⊢
  have hS : va_S A s.heap s.heap [] := va_S.rf
  have hl := lv_entry ([.ref hMO, .int v1]) (n := 6) (Nat.le_of_ble_eq_true rfl)
  rw [lg_entry_eq]
  generalize (lg_sl ([.ref hMO, .int v1]) ++ List.replicate (6 - (lg_sl ([.ref hMO, .int v1])).length) Slot.unset).toArray = ls at hl ⊢
  have hl : lv_has ls 6 [(0, .ref hMO), (1, .int v1)] := hl
  dsimp only [headSpec]
  unfold MO_measure at h
  refine lv_iconst (v := (0 : Int32)) X.1 X.2.1 dX6_measure_0 (by decide) ?_
  refine lv_istore_n (lv' := [(2, .int (0 : Int32)), (0, .ref hMO), (1, .int v1)]) X.1 X.2.1 dX6_measure_1 rfl hl (by decide) rfl (fun ls hl => ?_)
  obtain ⟨n', h⟩ := h
  exact s_MO_measure_2 X  n' aFA v1 (0 : Int32) _ _ _ h hP hD hS (lv_sub hl [1, 2, 0] rfl)
abbrev rm_MO_pushes : Room := { frames := 3, cells := 0, slots := 0, locals := 71 }
set_option maxHeartbeats 4000000 in
set_option maxRecDepth 100000 in
theorem s_MO_pushes_21 {p : Program} {l : Launch} {e : Env} {s : State} {m : MethodId} {args : Array Value} {below : List Frame} {meth : Method} {c : Code} {G : gEnv} {A : Nat → Prop} {hMO : Nat} {hTM : Nat} {hDO : Nat} {hXB : Nat} {hXC : Nat} {hXF : Nat} {hXY : Nat} {hXS : Nat} {hXP : Nat} {hFA : Nat} {hLE : Nat} {mo_size : Int32} {mo_isBoard : Int32} {mo_person : Int32} {mo_moves : Int32} {mo_pushes : Int32} {mo_goals : Int64} {mo_boxes : Int64} {mo_newFloor : Int64} {mo_newGoals : Int64} {mo_newBoxes : Int64} {mo_newPerson : Int32} {mo_newWidth : Int32} {mo_kept : Int32} {mo_many : Int32} {mo_taken : Int32} {mo_length : Int32} {mo_width : Int32} {mo_height : Int32} {mo_floor : Int64} {k26 : Int32 → (Nat → Int32) → Int32 → Int32 → Int32 → Int32 → Int32 → Int32 → Prop} {post : Int32 → Int32 → (Nat → Int32) → Prop} (X : gX p m meth c cX6_pushes 5 RX6 (some .int) s args G A) (hk26 : ∀ (mo_thrown' : Int32) (aFA' : (Nat → Int32)) (v1' : Int32) (v2' : Int32) (v3' : Int32) (v4' : Int32) (t1' : Int32) (t2' : Int32) (H : Heap) (locs : List Loc) (ls : Array Slot), k26 mo_thrown' aFA' v1' v2' v3' v4' t1' t2' → va_P G.1 gCl [cMO hMO mo_thrown' mo_size hTM mo_isBoard mo_width mo_height mo_person mo_moves mo_pushes mo_floor mo_goals mo_boxes mo_newFloor mo_newGoals mo_newBoxes mo_newPerson mo_newWidth mo_kept hDO mo_many mo_taken mo_length hXB hXC hXF hXY hXS hXP hFA hLE, cI G hFA 64 aFA'] H → va_D A [cMO hMO mo_thrown' mo_size hTM mo_isBoard mo_width mo_height mo_person mo_moves mo_pushes mo_floor mo_goals mo_boxes mo_newFloor mo_newGoals mo_newBoxes mo_newPerson mo_newWidth mo_kept hDO mo_many mo_taken mo_length hXB hXC hXF hXY hXS hXP hFA hLE, cI G hFA 64 aFA'] → va_S A s.heap H locs → lv_has ls 5 [(0, .ref hMO), (1, .int v1'), (2, .int v2'), (3, .int v3'), (4, .int v4')] → W p l e rm_MO_pushes s m args below meth c H locs 0 0 (MQ below (gQi G (fun (r : Int32) (u : Int32 × (Nat → Int32)) => post r u.1 u.2) (fun (u : Int32 × (Nat → Int32)) => [cMO hMO u.1 mo_size hTM mo_isBoard mo_width mo_height mo_person mo_moves mo_pushes mo_floor mo_goals mo_boxes mo_newFloor mo_newGoals mo_newBoxes mo_newPerson mo_newWidth mo_kept hDO mo_many mo_taken mo_length hXB hXC hXF hXY hXS hXP hFA hLE, cI G hFA 64 u.2]) A) args s 0 0 A) (F0 m 26 ls [.int t2', .int t1', .ref hMO])) : ∀ (mo_thrown : Int32) (aFA : (Nat → Int32)) (v1 : Int32) (v2 : Int32) (v3 : Int32) (v4 : Int32) (t1 : Int32) (H : Heap) (locs : List Loc) (ls : Array Slot), MO_pushes_21 mo_width mo_height mo_floor k26 post mo_thrown aFA v1 v2 v3 v4 t1 → va_P G.1 gCl [cMO hMO mo_thrown mo_size hTM mo_isBoard mo_width mo_height mo_person mo_moves mo_pushes mo_floor mo_goals mo_boxes mo_newFloor mo_newGoals mo_newBoxes mo_newPerson mo_newWidth mo_kept hDO mo_many mo_taken mo_length hXB hXC hXF hXY hXS hXP hFA hLE, cI G hFA 64 aFA] H → va_D A [cMO hMO mo_thrown mo_size hTM mo_isBoard mo_width mo_height mo_person mo_moves mo_pushes mo_floor mo_goals mo_boxes mo_newFloor mo_newGoals mo_newBoxes mo_newPerson mo_newWidth mo_kept hDO mo_many mo_taken mo_length hXB hXC hXF hXY hXS hXP hFA hLE, cI G hFA 64 aFA] → va_S A s.heap H locs → lv_has ls 5 [(0, .ref hMO), (1, .int v1), (2, .int v2), (3, .int v3), (4, .int v4)] → W p l e rm_MO_pushes s m args below meth c H locs 0 0 (MQ below (gQi G (fun (r : Int32) (u : Int32 × (Nat → Int32)) => post r u.1 u.2) (fun (u : Int32 × (Nat → Int32)) => [cMO hMO u.1 mo_size hTM mo_isBoard mo_width mo_height mo_person mo_moves mo_pushes mo_floor mo_goals mo_boxes mo_newFloor mo_newGoals mo_newBoxes mo_newPerson mo_newWidth mo_kept hDO mo_many mo_taken mo_length hXB hXC hXF hXY hXS hXP hFA hLE, cI G hFA 64 u.2]) A) args s 0 0 A) (F0 m 21 ls [.int t1, .ref hMO]) := by
  intro mo_thrown aFA v1 v2 v3 v4 t1 H locs ls h hP hD hS hl
  unfold MO_pushes_21 at h
  refine lv_iconst (v := (1 : Int32)) X.1 X.2.1 dX6_pushes_21 (by decide) ?_
  refine lv_goto (tgt := 26) X.1 X.2.1 dX6_pushes_22 (by decide) ?_
  exact hk26 mo_thrown aFA v1 v2 v3 v4 t1 (1 : Int32) _ _ _ h hP hD hS (lv_sub hl [0, 1, 2, 3, 4] rfl)
set_option maxHeartbeats 4000000 in
set_option maxRecDepth 100000 in
theorem s_MO_pushes_26 {p : Program} {l : Launch} {e : Env} {s : State} {m : MethodId} {args : Array Value} {below : List Frame} {meth : Method} {c : Code} {G : gEnv} {A : Nat → Prop} {hMO : Nat} {hTM : Nat} {hDO : Nat} {hXB : Nat} {hXC : Nat} {hXF : Nat} {hXY : Nat} {hXS : Nat} {hXP : Nat} {hFA : Nat} {hLE : Nat} {mo_size : Int32} {mo_isBoard : Int32} {mo_person : Int32} {mo_moves : Int32} {mo_pushes : Int32} {mo_goals : Int64} {mo_boxes : Int64} {mo_newFloor : Int64} {mo_newGoals : Int64} {mo_newBoxes : Int64} {mo_newPerson : Int32} {mo_newWidth : Int32} {mo_kept : Int32} {mo_many : Int32} {mo_taken : Int32} {mo_length : Int32} {mo_width : Int32} {mo_height : Int32} {mo_floor : Int64} {post : Int32 → Int32 → (Nat → Int32) → Prop} (X : gX p m meth c cX6_pushes 5 RX6 (some .int) s args G A)  : ∀ (mo_thrown : Int32) (aFA : (Nat → Int32)) (v1 : Int32) (v2 : Int32) (v3 : Int32) (v4 : Int32) (t1 : Int32) (t2 : Int32) (H : Heap) (locs : List Loc) (ls : Array Slot), MO_pushes_26 mo_width mo_height mo_floor post mo_thrown aFA v1 v2 v3 v4 t1 t2 → va_P G.1 gCl [cMO hMO mo_thrown mo_size hTM mo_isBoard mo_width mo_height mo_person mo_moves mo_pushes mo_floor mo_goals mo_boxes mo_newFloor mo_newGoals mo_newBoxes mo_newPerson mo_newWidth mo_kept hDO mo_many mo_taken mo_length hXB hXC hXF hXY hXS hXP hFA hLE, cI G hFA 64 aFA] H → va_D A [cMO hMO mo_thrown mo_size hTM mo_isBoard mo_width mo_height mo_person mo_moves mo_pushes mo_floor mo_goals mo_boxes mo_newFloor mo_newGoals mo_newBoxes mo_newPerson mo_newWidth mo_kept hDO mo_many mo_taken mo_length hXB hXC hXF hXY hXS hXP hFA hLE, cI G hFA 64 aFA] → va_S A s.heap H locs → lv_has ls 5 [(0, .ref hMO), (1, .int v1), (2, .int v2), (3, .int v3), (4, .int v4)] → W p l e rm_MO_pushes s m args below meth c H locs 0 0 (MQ below (gQi G (fun (r : Int32) (u : Int32 × (Nat → Int32)) => post r u.1 u.2) (fun (u : Int32 × (Nat → Int32)) => [cMO hMO u.1 mo_size hTM mo_isBoard mo_width mo_height mo_person mo_moves mo_pushes mo_floor mo_goals mo_boxes mo_newFloor mo_newGoals mo_newBoxes mo_newPerson mo_newWidth mo_kept hDO mo_many mo_taken mo_length hXB hXC hXF hXY hXS hXP hFA hLE, cI G hFA 64 u.2]) A) args s 0 0 A) (F0 m 26 ls [.int t2, .int t1, .ref hMO]) := by
  intro mo_thrown aFA v1 v2 v3 v4 t1 t2 H locs ls h hP hD hS hl
  unfold MO_pushes_26 at h
  refine g_ci (wr := [cI G hFA 64 aFA]) X [0] [1] (g_rV (As := [.int t1, .int t2]) (rest := []) X (c_MO_throwsIf l G hMO hTM hDO hXB hXC hXF hXY hXS hXP hFA hLE mo_thrown mo_size mo_isBoard mo_width mo_height mo_person mo_moves mo_pushes mo_floor mo_goals mo_boxes mo_newFloor mo_newGoals mo_newBoxes mo_newPerson mo_newWidth mo_kept mo_many mo_taken mo_length t1 t2 _ h _) lk_X6_118 rfl rfl ⟨Nat.le_of_ble_eq_true rfl, Nat.le_of_ble_eq_true rfl⟩ hP hD hS [0] rfl rfl 0 6 rfl rfl rfl hl.1 rfl (Nat.le_of_ble_eq_true rfl) dX6_pushes_26 ⟨Nat.le_of_ble_eq_true rfl, Nat.le_of_ble_eq_true rfl⟩) hP hD hS rfl rfl rfl (by decide) (fun r_1 u H locs h hP hD hS => ?_)
  obtain ⟨mo_thrown_2, rfl⟩ : ∃ z, z = u := ⟨_, rfl⟩
  try dsimp only at h
  replace hP := hP.sub (ws' := [cMO hMO mo_thrown_2 mo_size hTM mo_isBoard mo_width mo_height mo_person mo_moves mo_pushes mo_floor mo_goals mo_boxes mo_newFloor mo_newGoals mo_newBoxes mo_newPerson mo_newWidth mo_kept hDO mo_many mo_taken mo_length hXB hXC hXF hXY hXS hXP hFA hLE, cI G hFA 64 aFA]) [1, 0] rfl
  replace hD := hD.sub (ws' := [cMO hMO mo_thrown_2 mo_size hTM mo_isBoard mo_width mo_height mo_person mo_moves mo_pushes mo_floor mo_goals mo_boxes mo_newFloor mo_newGoals mo_newBoxes mo_newPerson mo_newWidth mo_kept hDO mo_many mo_taken mo_length hXB hXC hXF hXY hXS hXP hFA hLE, cI G hFA 64 aFA]) [1, 0] rfl rfl
  refine lv_if_eq (tgt := 34) X.1 X.2.1 dX6_pushes_29 (by decide) (fun hc => ?_) (fun hc => ?_)
  · replace h := Eq.mp (if_pos hc) h
    refine lv_aload_n X.1 X.2.1 dX6_pushes_34 rfl (lv_at hl 0 rfl) ?_
    refine lv_bipush (v := (8 : Int32)) X.1 X.2.1 dX6_pushes_35 (by decide) ?_
    refine lv_iload_n X.1 X.2.1 dX6_pushes_37 rfl (lv_at hl 2 rfl) ?_
    refine lv_imul X.1 X.2.1 dX6_pushes_38 ?_
    refine lv_iload_n X.1 X.2.1 dX6_pushes_39 rfl (lv_at hl 1 rfl) ?_
    refine lv_iadd X.1 X.2.1 dX6_pushes_40 ?_
    refine g_cv (wr := []) X [0, 1] [] (g_rV (As := [.int (((8 : Int32) * v2) + v1)]) (rest := []) X (c_MO_measure l G hMO hTM hDO hXB hXC hXF hXY hXS hXP hFA hLE mo_thrown_2 mo_size mo_isBoard mo_width mo_height mo_person mo_moves mo_pushes mo_floor mo_goals mo_boxes mo_newFloor mo_newGoals mo_newBoxes mo_newPerson mo_newWidth mo_kept mo_many mo_taken mo_length aFA (((8 : Int32) * v2) + v1) _ h _) lk_X6_155 rfl rfl ⟨Nat.le_of_ble_eq_true rfl, Nat.le_of_ble_eq_true rfl⟩ hP hD hS [0, 1] rfl rfl 0 6 rfl rfl rfl hl.1 rfl (Nat.le_of_ble_eq_true rfl) dX6_pushes_41 ⟨Nat.le_of_ble_eq_true rfl, Nat.le_of_ble_eq_true rfl⟩) hP hD hS rfl rfl rfl (by decide) (fun u H locs h hP hD hS => ?_)
    obtain ⟨aFA_3, rfl⟩ : ∃ z, z = u := ⟨_, rfl⟩
    try dsimp only at h
    replace hP := hP.sub (ws' := [cMO hMO mo_thrown_2 mo_size hTM mo_isBoard mo_width mo_height mo_person mo_moves mo_pushes mo_floor mo_goals mo_boxes mo_newFloor mo_newGoals mo_newBoxes mo_newPerson mo_newWidth mo_kept hDO mo_many mo_taken mo_length hXB hXC hXF hXY hXS hXP hFA hLE, cI G hFA 64 aFA_3]) [0, 1] rfl
    replace hD := hD.sub (ws' := [cMO hMO mo_thrown_2 mo_size hTM mo_isBoard mo_width mo_height mo_person mo_moves mo_pushes mo_floor mo_goals mo_boxes mo_newFloor mo_newGoals mo_newBoxes mo_newPerson mo_newWidth mo_kept hDO mo_many mo_taken mo_length hXB hXC hXF hXY hXS hXP hFA hLE, cI G hFA 64 aFA_3]) [0, 1] rfl rfl
    refine lv_aload_n X.1 X.2.1 dX6_pushes_44 rfl (lv_at hl 0 rfl) ?_
    refine g_get X hP 0 6 28 (v := .ref hFA) rfl rfl inX6 (by decide) fl_X6_36 rfl dX6_pushes_45 ?_
    refine lv_bipush (v := (8 : Int32)) X.1 X.2.1 dX6_pushes_48 (by decide) ?_
    refine lv_iload X.1 X.2.1 dX6_pushes_50 (lv_at hl 4 rfl) ?_
    refine lv_imul X.1 X.2.1 dX6_pushes_52 ?_
    refine lv_iload_n X.1 X.2.1 dX6_pushes_53 rfl (lv_at hl 3 rfl) ?_
    refine lv_iadd X.1 X.2.1 dX6_pushes_54 ?_
    obtain ⟨hin, h⟩ := h
    refine va_iald (D := G.1) X.1 X.2.1 X.k.1 hP 1 0 rfl rfl hin dX6_pushes_55 ?_
    exact g_iret X (mo_thrown_2, aFA_3) h hP hD hS dX6_pushes_56
  · replace h := Eq.mp (if_neg hc) h
    refine lv_iconst (v := (0 : Int32)) X.1 X.2.1 dX6_pushes_32 (by decide) ?_
    exact g_iret X (mo_thrown_2, aFA) h hP hD hS dX6_pushes_33
set_option maxHeartbeats 4000000 in
set_option maxRecDepth 100000 in
theorem c_MO_pushes (l : Launch) (G : gEnv) (hMO : Nat) (hTM : Nat) (hDO : Nat) (hXB : Nat) (hXC : Nat) (hXF : Nat) (hXY : Nat) (hXS : Nat) (hXP : Nat) (hFA : Nat) (hLE : Nat) (mo_thrown : Int32) (mo_size : Int32) (mo_isBoard : Int32) (mo_width : Int32) (mo_height : Int32) (mo_person : Int32) (mo_moves : Int32) (mo_pushes : Int32) (mo_floor : Int64) (mo_goals : Int64) (mo_boxes : Int64) (mo_newFloor : Int64) (mo_newGoals : Int64) (mo_newBoxes : Int64) (mo_newPerson : Int32) (mo_newWidth : Int32) (mo_kept : Int32) (mo_many : Int32) (mo_taken : Int32) (mo_length : Int32) (aFA : Nat → Int32) (v1 : Int32) (v2 : Int32) (v3 : Int32) (v4 : Int32) (post : Int32 → Int32 → (Nat → Int32) → Prop) (h : MO_pushes mo_width mo_height mo_floor mo_thrown aFA v1 v2 v3 v4 post) (sz : Nat) : Met l yX6_pushes (Cond.code yX6_pushes cX6_pushes 5 (some .int) :: wAll) (rm_MO_pushes) (gPc G [.ref hMO, .int v1, .int v2, .int v3, .int v4] [cMO hMO mo_thrown mo_size hTM mo_isBoard mo_width mo_height mo_person mo_moves mo_pushes mo_floor mo_goals mo_boxes mo_newFloor mo_newGoals mo_newBoxes mo_newPerson mo_newWidth mo_kept hDO mo_many mo_taken mo_length hXB hXC hXF hXY hXS hXP hFA hLE, cI G hFA 64 aFA] sz) (gQi G (fun (r : Int32) (u : Int32 × (Nat → Int32)) => post r u.1 u.2) (fun (u : Int32 × (Nat → Int32)) => [cMO hMO u.1 mo_size hTM mo_isBoard mo_width mo_height mo_person mo_moves mo_pushes mo_floor mo_goals mo_boxes mo_newFloor mo_newGoals mo_newBoxes mo_newPerson mo_newWidth mo_kept hDO mo_many mo_taken mo_length hXB hXC hXF hXY hXS hXP hFA hLE, cI G hFA 64 u.2]) (va_A [cMO hMO mo_thrown mo_size hTM mo_isBoard mo_width mo_height mo_person mo_moves mo_pushes mo_floor mo_goals mo_boxes mo_newFloor mo_newGoals mo_newBoxes mo_newPerson mo_newWidth mo_kept hDO mo_many mo_taken mo_length hXB hXC hXF hXY hXS hXP hFA hLE, cI G hFA 64 aFA] sz)) 0 0 (va_A [cMO hMO mo_thrown mo_size hTM mo_isBoard mo_width mo_height mo_person mo_moves mo_pushes mo_floor mo_goals mo_boxes mo_newFloor mo_newGoals mo_newBoxes mo_newPerson mo_newWidth mo_kept hDO mo_many mo_taken mo_length hXB hXC hXF hXY hXS hXP hFA hLE, cI G hFA 64 aFA] sz) := by
  refine Met.ofW (cc := cX6_pushes) (maxL := 5) (ret := (some .int)) (by decide) rfl ?_
  intro p e s m args below meth c s₁ B hml hv
  obtain ⟨rfl, hsz, hP, hK, hD0⟩ := hv
  subst hsz
  have X := gX.ofB (ws := [cMO hMO mo_thrown mo_size hTM mo_isBoard mo_width mo_height mo_person mo_moves mo_pushes mo_floor mo_goals mo_boxes mo_newFloor mo_newGoals mo_newBoxes mo_newPerson mo_newWidth mo_kept hDO mo_many mo_taken mo_length hXB hXC hXF hXY hXS hXP hFA hLE, cI G hFA 64 aFA]) B hml hK hD0
  have hD := hD0.self (sz := s.heap.size)
  generalize hAe : va_A [cMO hMO mo_thrown mo_size hTM mo_isBoard mo_width mo_height mo_person mo_moves mo_pushes mo_floor mo_goals mo_boxes mo_newFloor mo_newGoals mo_newBoxes mo_newPerson mo_newWidth mo_kept hDO mo_many mo_taken mo_length hXB hXC hXF hXY hXS hXP hFA hLE, cI G hFA 64 aFA] s.heap.size = A at X hD ⊢
  have hS : va_S A s.heap s.heap [] := va_S.rf
  have hl := lv_entry ([.ref hMO, .int v1, .int v2, .int v3, .int v4]) (n := 5) (Nat.le_of_ble_eq_true rfl)
  rw [lg_entry_eq]
  generalize (lg_sl ([.ref hMO, .int v1, .int v2, .int v3, .int v4]) ++ List.replicate (5 - (lg_sl ([.ref hMO, .int v1, .int v2, .int v3, .int v4])).length) Slot.unset).toArray = ls at hl ⊢
  have hl : lv_has ls 5 [(0, .ref hMO), (1, .int v1), (2, .int v2), (3, .int v3), (4, .int v4)] := hl
  dsimp only [headSpec]
  unfold MO_pushes at h
  refine lv_aload_n X.1 X.2.1 dX6_pushes_0 rfl (lv_at hl 0 rfl) ?_
  refine lv_iconst (v := (1 : Int32)) X.1 X.2.1 dX6_pushes_1 (by decide) ?_
  refine lv_aload_n X.1 X.2.1 dX6_pushes_2 rfl (lv_at hl 0 rfl) ?_
  refine lv_iload_n X.1 X.2.1 dX6_pushes_3 rfl (lv_at hl 1 rfl) ?_
  refine lv_iload_n X.1 X.2.1 dX6_pushes_4 rfl (lv_at hl 2 rfl) ?_
  refine g_ci (wr := [cI G hFA 64 aFA]) X [0] [1] (g_rV (As := [.int v1, .int v2]) (rest := [.int (1 : Int32), .ref hMO]) X (c_MO_isCell l G hMO hTM hDO hXB hXC hXF hXY hXS hXP hFA hLE mo_thrown mo_size mo_isBoard mo_width mo_height mo_person mo_moves mo_pushes mo_floor mo_goals mo_boxes mo_newFloor mo_newGoals mo_newBoxes mo_newPerson mo_newWidth mo_kept mo_many mo_taken mo_length v1 v2 _ h _) lk_X6_52 rfl rfl ⟨Nat.le_of_ble_eq_true rfl, Nat.le_of_ble_eq_true rfl⟩ hP hD hS [0] rfl rfl 0 6 rfl rfl rfl hl.1 rfl (Nat.le_of_ble_eq_true rfl) dX6_pushes_5 ⟨Nat.le_of_ble_eq_true rfl, Nat.le_of_ble_eq_true rfl⟩) hP hD hS rfl rfl rfl (by decide) (fun r_1 u H locs h hP hD hS => ?_)
  try dsimp only at h
  replace hP := hP.sub (ws' := [cMO hMO mo_thrown mo_size hTM mo_isBoard mo_width mo_height mo_person mo_moves mo_pushes mo_floor mo_goals mo_boxes mo_newFloor mo_newGoals mo_newBoxes mo_newPerson mo_newWidth mo_kept hDO mo_many mo_taken mo_length hXB hXC hXF hXY hXS hXP hFA hLE, cI G hFA 64 aFA]) [1, 0] rfl
  replace hD := hD.sub (ws' := [cMO hMO mo_thrown mo_size hTM mo_isBoard mo_width mo_height mo_person mo_moves mo_pushes mo_floor mo_goals mo_boxes mo_newFloor mo_newGoals mo_newBoxes mo_newPerson mo_newWidth mo_kept hDO mo_many mo_taken mo_length hXB hXC hXF hXY hXS hXP hFA hLE, cI G hFA 64 aFA]) [1, 0] rfl rfl
  refine lv_if_eq (tgt := 21) X.1 X.2.1 dX6_pushes_8 (by decide) (fun hc => ?_) (fun hc => ?_)
  · replace h := Eq.mp (if_pos hc) h
    exact s_MO_pushes_21 X (fun mo_thrown' aFA' v1' v2' v3' v4' t1' t2' H' locs' ls' h' hP' hD' hS' hl' => s_MO_pushes_26 X  mo_thrown' aFA' v1' v2' v3' v4' t1' t2' H' locs' ls' h' hP' hD' hS' hl') mo_thrown aFA v1 v2 v3 v4 (1 : Int32) _ _ _ h hP hD hS (lv_sub hl [0, 1, 2, 3, 4] rfl)
  · replace h := Eq.mp (if_neg hc) h
    refine lv_aload_n X.1 X.2.1 dX6_pushes_11 rfl (lv_at hl 0 rfl) ?_
    refine lv_iload_n X.1 X.2.1 dX6_pushes_12 rfl (lv_at hl 3 rfl) ?_
    refine lv_iload X.1 X.2.1 dX6_pushes_13 (lv_at hl 4 rfl) ?_
    refine g_ci (wr := [cI G hFA 64 aFA]) X [0] [1] (g_rV (As := [.int v3, .int v4]) (rest := [.int (1 : Int32), .ref hMO]) X (c_MO_isCell l G hMO hTM hDO hXB hXC hXF hXY hXS hXP hFA hLE mo_thrown mo_size mo_isBoard mo_width mo_height mo_person mo_moves mo_pushes mo_floor mo_goals mo_boxes mo_newFloor mo_newGoals mo_newBoxes mo_newPerson mo_newWidth mo_kept mo_many mo_taken mo_length v3 v4 _ h _) lk_X6_52 rfl rfl ⟨Nat.le_of_ble_eq_true rfl, Nat.le_of_ble_eq_true rfl⟩ hP hD hS [0] rfl rfl 0 6 rfl rfl rfl hl.1 rfl (Nat.le_of_ble_eq_true rfl) dX6_pushes_15 ⟨Nat.le_of_ble_eq_true rfl, Nat.le_of_ble_eq_true rfl⟩) hP hD hS rfl rfl rfl (by decide) (fun r_2 u H locs h hP hD hS => ?_)
    try dsimp only at h
    replace hP := hP.sub (ws' := [cMO hMO mo_thrown mo_size hTM mo_isBoard mo_width mo_height mo_person mo_moves mo_pushes mo_floor mo_goals mo_boxes mo_newFloor mo_newGoals mo_newBoxes mo_newPerson mo_newWidth mo_kept hDO mo_many mo_taken mo_length hXB hXC hXF hXY hXS hXP hFA hLE, cI G hFA 64 aFA]) [1, 0] rfl
    replace hD := hD.sub (ws' := [cMO hMO mo_thrown mo_size hTM mo_isBoard mo_width mo_height mo_person mo_moves mo_pushes mo_floor mo_goals mo_boxes mo_newFloor mo_newGoals mo_newBoxes mo_newPerson mo_newWidth mo_kept hDO mo_many mo_taken mo_length hXB hXC hXF hXY hXS hXP hFA hLE, cI G hFA 64 aFA]) [1, 0] rfl rfl
    refine lv_if_ne (tgt := 25) X.1 X.2.1 dX6_pushes_18 (by decide) (fun hc => ?_) (fun hc => ?_)
    · replace h := Eq.mp (if_neg hc) h
      refine lv_iconst (v := (0 : Int32)) X.1 X.2.1 dX6_pushes_25 (by decide) ?_
      exact s_MO_pushes_26 X  mo_thrown aFA v1 v2 v3 v4 (1 : Int32) (0 : Int32) _ _ _ h hP hD hS (lv_sub hl [0, 1, 2, 3, 4] rfl)
    · replace h := Eq.mp (if_pos hc) h
      exact s_MO_pushes_21 X (fun mo_thrown' aFA' v1' v2' v3' v4' t1' t2' H' locs' ls' h' hP' hD' hS' hl' => s_MO_pushes_26 X  mo_thrown' aFA' v1' v2' v3' v4' t1' t2' H' locs' ls' h' hP' hD' hS' hl') mo_thrown aFA v1 v2 v3 v4 (1 : Int32) _ _ _ h hP hD hS (lv_sub hl [0, 1, 2, 3, 4] rfl)
abbrev rm_MO_goalAt : Room := { frames := 1, cells := 0, slots := 0, locals := 22 }
set_option maxHeartbeats 4000000 in
set_option maxRecDepth 100000 in
theorem s_MO_goalAt_4 {p : Program} {l : Launch} {e : Env} {s : State} {m : MethodId} {args : Array Value} {below : List Frame} {meth : Method} {c : Code} {G : gEnv} {A : Nat → Prop} {hMO : Nat} {hTM : Nat} {hDO : Nat} {hXB : Nat} {hXC : Nat} {hXF : Nat} {hXY : Nat} {hXS : Nat} {hXP : Nat} {hFA : Nat} {hLE : Nat} {mo_thrown : Int32} {mo_size : Int32} {mo_isBoard : Int32} {mo_width : Int32} {mo_height : Int32} {mo_person : Int32} {mo_moves : Int32} {mo_pushes : Int32} {mo_floor : Int64} {mo_boxes : Int64} {mo_newFloor : Int64} {mo_newGoals : Int64} {mo_newBoxes : Int64} {mo_newPerson : Int32} {mo_newWidth : Int32} {mo_kept : Int32} {mo_many : Int32} {mo_taken : Int32} {mo_length : Int32} {mo_goals : Int64} {post : Int32 → Prop} (X : gX p m meth c cX6_goalAt 4 RX6 (some .int) s args G A)  : ∀ (n : Nat) (v1 : Int32) (v2 : Int32) (v3 : Int32) (H : Heap) (locs : List Loc) (ls : Array Slot), MO_goalAt_4 mo_goals post n v1 v2 v3 → va_P G.1 gCl [cMO hMO mo_thrown mo_size hTM mo_isBoard mo_width mo_height mo_person mo_moves mo_pushes mo_floor mo_goals mo_boxes mo_newFloor mo_newGoals mo_newBoxes mo_newPerson mo_newWidth mo_kept hDO mo_many mo_taken mo_length hXB hXC hXF hXY hXS hXP hFA hLE] H → va_D A [cMO hMO mo_thrown mo_size hTM mo_isBoard mo_width mo_height mo_person mo_moves mo_pushes mo_floor mo_goals mo_boxes mo_newFloor mo_newGoals mo_newBoxes mo_newPerson mo_newWidth mo_kept hDO mo_many mo_taken mo_length hXB hXC hXF hXY hXS hXP hFA hLE] → va_S A s.heap H locs → lv_has ls 4 [(0, .ref hMO), (1, .int v1), (2, .int v2), (3, .int v3)] → W p l e rm_MO_goalAt s m args below meth c H locs 0 0 (MQ below (gQi G (fun (r : Int32) (u : Unit) => post r ) (fun (u : Unit) => [cMO hMO mo_thrown mo_size hTM mo_isBoard mo_width mo_height mo_person mo_moves mo_pushes mo_floor mo_goals mo_boxes mo_newFloor mo_newGoals mo_newBoxes mo_newPerson mo_newWidth mo_kept hDO mo_many mo_taken mo_length hXB hXC hXF hXY hXS hXP hFA hLE]) A) args s 0 0 A) (F0 m 4 ls []) := by
  intro n
  induction n with
  | zero => intro v1 v2 v3 H locs ls h _ _ _ _; exact h.elim
  | succ n ih =>
    intro v1 v2 v3 H locs ls h hP hD hS hl
    unfold MO_goalAt_4 at h
    refine lv_iload_n X.1 X.2.1 dX6_goalAt_4 rfl (lv_at hl 3 rfl) ?_
    refine lv_bipush (v := (64 : Int32)) X.1 X.2.1 dX6_goalAt_5 (by decide) ?_
    refine lv_icmp_ge (tgt := 40) X.1 X.2.1 dX6_goalAt_7 (by decide) (fun hc => ?_) (fun hc => ?_)
    · replace h := Eq.mp (if_pos hc) h
      refine lv_iconst (v := (-1 : Int32)) X.1 X.2.1 dX6_goalAt_40 (by decide) ?_
      exact g_iret X () h hP hD hS dX6_goalAt_41
    · replace h := Eq.mp (if_neg hc) h
      refine lv_aload_n X.1 X.2.1 dX6_goalAt_10 rfl (lv_at hl 0 rfl) ?_
      refine g_get X hP 0 6 10 (v := .long mo_goals) rfl rfl inX6 (by decide) fl_X6_94 rfl dX6_goalAt_11 ?_
      refine lv_iload_n X.1 X.2.1 dX6_goalAt_14 rfl (lv_at hl 3 rfl) ?_
      refine g_ci (wr := [cMO hMO mo_thrown mo_size hTM mo_isBoard mo_width mo_height mo_person mo_moves mo_pushes mo_floor mo_goals mo_boxes mo_newFloor mo_newGoals mo_newBoxes mo_newPerson mo_newWidth mo_kept hDO mo_many mo_taken mo_length hXB hXC hXF hXY hXS hXP hFA hLE]) X [] [0] (g_rS (As := [.long mo_goals, .int v3]) (rest := []) X (c_MO_has l G mo_goals v3 _ h _) lk_X6_90 rfl rfl ⟨Nat.le_of_ble_eq_true rfl, Nat.le_of_ble_eq_true rfl⟩ hP hD hS [] rfl rfl rfl hl.1 rfl (Nat.le_of_ble_eq_true rfl) dX6_goalAt_15 ⟨Nat.le_of_ble_eq_true rfl, Nat.le_of_ble_eq_true rfl⟩) hP hD hS rfl rfl rfl (by decide) (fun r_1 u H locs h hP hD hS => ?_)
      try dsimp only at h
      replace hP := hP.sub (ws' := [cMO hMO mo_thrown mo_size hTM mo_isBoard mo_width mo_height mo_person mo_moves mo_pushes mo_floor mo_goals mo_boxes mo_newFloor mo_newGoals mo_newBoxes mo_newPerson mo_newWidth mo_kept hDO mo_many mo_taken mo_length hXB hXC hXF hXY hXS hXP hFA hLE]) [0] rfl
      replace hD := hD.sub (ws' := [cMO hMO mo_thrown mo_size hTM mo_isBoard mo_width mo_height mo_person mo_moves mo_pushes mo_floor mo_goals mo_boxes mo_newFloor mo_newGoals mo_newBoxes mo_newPerson mo_newWidth mo_kept hDO mo_many mo_taken mo_length hXB hXC hXF hXY hXS hXP hFA hLE]) [0] rfl rfl
      refine lv_if_ne (tgt := 24) X.1 X.2.1 dX6_goalAt_18 (by decide) (fun hc => ?_) (fun hc => ?_)
      · replace h := Eq.mp (if_neg hc) h
        refine lv_iload_n X.1 X.2.1 dX6_goalAt_24 rfl (lv_at hl 2 rfl) ?_
        refine lv_iload_n X.1 X.2.1 dX6_goalAt_25 rfl (lv_at hl 1 rfl) ?_
        refine lv_icmp_ne (tgt := 31) X.1 X.2.1 dX6_goalAt_26 (by decide) (fun hc => ?_) (fun hc => ?_)
        · replace h := Eq.mp (if_neg hc) h
          refine lv_iinc (v := (v2 + (1 : Int32))) (lv' := [(2, .int (v2 + (1 : Int32))), (0, .ref hMO), (1, .int v1), (3, .int v3)]) X.1 X.2.1 dX6_goalAt_31 hl (k := 2) rfl rfl (by decide) rfl (fun ls hl => ?_)
          refine lv_iinc (v := (v3 + (1 : Int32))) (lv' := [(3, .int (v3 + (1 : Int32))), (2, .int (v2 + (1 : Int32))), (0, .ref hMO), (1, .int v1)]) X.1 X.2.1 dX6_goalAt_34 hl (k := 3) rfl rfl (by decide) rfl (fun ls hl => ?_)
          refine lv_goto (tgt := 4) X.1 X.2.1 dX6_goalAt_37 (by decide) ?_
          exact ih v1 (v2 + (1 : Int32)) (v3 + (1 : Int32)) _ _ _ h hP hD hS (lv_sub hl [2, 3, 1, 0] rfl)
        · replace h := Eq.mp (if_pos hc) h
          refine lv_iload_n X.1 X.2.1 dX6_goalAt_29 rfl (lv_at hl 3 rfl) ?_
          exact g_iret X () h hP hD hS dX6_goalAt_30
      · replace h := Eq.mp (if_pos hc) h
        refine lv_goto (tgt := 34) X.1 X.2.1 dX6_goalAt_21 (by decide) ?_
        refine lv_iinc (v := (v3 + (1 : Int32))) (lv' := [(3, .int (v3 + (1 : Int32))), (0, .ref hMO), (1, .int v1), (2, .int v2)]) X.1 X.2.1 dX6_goalAt_34 hl (k := 3) rfl rfl (by decide) rfl (fun ls hl => ?_)
        refine lv_goto (tgt := 4) X.1 X.2.1 dX6_goalAt_37 (by decide) ?_
        exact ih v1 v2 (v3 + (1 : Int32)) _ _ _ h hP hD hS (lv_sub hl [1, 2, 3, 0] rfl)
set_option maxHeartbeats 4000000 in
set_option maxRecDepth 100000 in
theorem c_MO_goalAt (l : Launch) (G : gEnv) (hMO : Nat) (hTM : Nat) (hDO : Nat) (hXB : Nat) (hXC : Nat) (hXF : Nat) (hXY : Nat) (hXS : Nat) (hXP : Nat) (hFA : Nat) (hLE : Nat) (mo_thrown : Int32) (mo_size : Int32) (mo_isBoard : Int32) (mo_width : Int32) (mo_height : Int32) (mo_person : Int32) (mo_moves : Int32) (mo_pushes : Int32) (mo_floor : Int64) (mo_goals : Int64) (mo_boxes : Int64) (mo_newFloor : Int64) (mo_newGoals : Int64) (mo_newBoxes : Int64) (mo_newPerson : Int32) (mo_newWidth : Int32) (mo_kept : Int32) (mo_many : Int32) (mo_taken : Int32) (mo_length : Int32) (v1 : Int32) (post : Int32 → Prop) (h : MO_goalAt mo_goals v1 post) (sz : Nat) : Met l yX6_goalAt (Cond.code yX6_goalAt cX6_goalAt 4 (some .int) :: wAll) (rm_MO_goalAt) (gPc G [.ref hMO, .int v1] [cMO hMO mo_thrown mo_size hTM mo_isBoard mo_width mo_height mo_person mo_moves mo_pushes mo_floor mo_goals mo_boxes mo_newFloor mo_newGoals mo_newBoxes mo_newPerson mo_newWidth mo_kept hDO mo_many mo_taken mo_length hXB hXC hXF hXY hXS hXP hFA hLE] sz) (gQi G (fun (r : Int32) (u : Unit) => post r ) (fun (u : Unit) => [cMO hMO mo_thrown mo_size hTM mo_isBoard mo_width mo_height mo_person mo_moves mo_pushes mo_floor mo_goals mo_boxes mo_newFloor mo_newGoals mo_newBoxes mo_newPerson mo_newWidth mo_kept hDO mo_many mo_taken mo_length hXB hXC hXF hXY hXS hXP hFA hLE]) (va_A [cMO hMO mo_thrown mo_size hTM mo_isBoard mo_width mo_height mo_person mo_moves mo_pushes mo_floor mo_goals mo_boxes mo_newFloor mo_newGoals mo_newBoxes mo_newPerson mo_newWidth mo_kept hDO mo_many mo_taken mo_length hXB hXC hXF hXY hXS hXP hFA hLE] sz)) 0 0 (va_A [cMO hMO mo_thrown mo_size hTM mo_isBoard mo_width mo_height mo_person mo_moves mo_pushes mo_floor mo_goals mo_boxes mo_newFloor mo_newGoals mo_newBoxes mo_newPerson mo_newWidth mo_kept hDO mo_many mo_taken mo_length hXB hXC hXF hXY hXS hXP hFA hLE] sz) := by
  refine Met.ofW (cc := cX6_goalAt) (maxL := 4) (ret := (some .int)) (by decide) rfl ?_
  intro p e s m args below meth c s₁ B hml hv
  obtain ⟨rfl, hsz, hP, hK, hD0⟩ := hv
  subst hsz
  have X := gX.ofB (ws := [cMO hMO mo_thrown mo_size hTM mo_isBoard mo_width mo_height mo_person mo_moves mo_pushes mo_floor mo_goals mo_boxes mo_newFloor mo_newGoals mo_newBoxes mo_newPerson mo_newWidth mo_kept hDO mo_many mo_taken mo_length hXB hXC hXF hXY hXS hXP hFA hLE]) B hml hK hD0
  have hD := hD0.self (sz := s.heap.size)
  generalize hAe : va_A [cMO hMO mo_thrown mo_size hTM mo_isBoard mo_width mo_height mo_person mo_moves mo_pushes mo_floor mo_goals mo_boxes mo_newFloor mo_newGoals mo_newBoxes mo_newPerson mo_newWidth mo_kept hDO mo_many mo_taken mo_length hXB hXC hXF hXY hXS hXP hFA hLE] s.heap.size = A at X hD ⊢
  have hS : va_S A s.heap s.heap [] := va_S.rf
  have hl := lv_entry ([.ref hMO, .int v1]) (n := 4) (Nat.le_of_ble_eq_true rfl)
  rw [lg_entry_eq]
  generalize (lg_sl ([.ref hMO, .int v1]) ++ List.replicate (4 - (lg_sl ([.ref hMO, .int v1])).length) Slot.unset).toArray = ls at hl ⊢
  have hl : lv_has ls 4 [(0, .ref hMO), (1, .int v1)] := hl
  dsimp only [headSpec]
  unfold MO_goalAt at h
  refine lv_iconst (v := (0 : Int32)) X.1 X.2.1 dX6_goalAt_0 (by decide) ?_
  refine lv_istore_n (lv' := [(2, .int (0 : Int32)), (0, .ref hMO), (1, .int v1)]) X.1 X.2.1 dX6_goalAt_1 rfl hl (by decide) rfl (fun ls hl => ?_)
  refine lv_iconst (v := (0 : Int32)) X.1 X.2.1 dX6_goalAt_2 (by decide) ?_
  refine lv_istore_n (lv' := [(3, .int (0 : Int32)), (2, .int (0 : Int32)), (0, .ref hMO), (1, .int v1)]) X.1 X.2.1 dX6_goalAt_3 rfl hl (by decide) rfl (fun ls hl => ?_)
  obtain ⟨n', h⟩ := h
  exact s_MO_goalAt_4 X  n' v1 (0 : Int32) (0 : Int32) _ _ _ h hP hD hS (lv_sub hl [2, 3, 1, 0] rfl)
abbrev rm_MO_bound : Room := { frames := 3, cells := 0, slots := 0, locals := 71 }
set_option maxHeartbeats 4000000 in
set_option maxRecDepth 100000 in
theorem s_MO_bound_177 {p : Program} {l : Launch} {e : Env} {s : State} {m : MethodId} {args : Array Value} {below : List Frame} {meth : Method} {c : Code} {G : gEnv} {A : Nat → Prop} {hMO : Nat} {hTM : Nat} {hDO : Nat} {hXB : Nat} {hXC : Nat} {hXF : Nat} {hXY : Nat} {hXS : Nat} {hXP : Nat} {hFA : Nat} {hLE : Nat} {mo_size : Int32} {mo_isBoard : Int32} {mo_person : Int32} {mo_moves : Int32} {mo_pushes : Int32} {mo_newFloor : Int64} {mo_newGoals : Int64} {mo_newBoxes : Int64} {mo_newPerson : Int32} {mo_newWidth : Int32} {mo_kept : Int32} {mo_many : Int32} {mo_taken : Int32} {mo_length : Int32} {mo_width : Int32} {mo_height : Int32} {mo_floor : Int64} {mo_goals : Int64} {mo_boxes : Int64} {k83 : Int32 → (Nat → Int32) → (Nat → Int32) → Int32 → Int32 → Int32 → Int32 → Prop} {post : Int32 → Int32 → (Nat → Int32) → (Nat → Int32) → Prop} (X : gX p m meth c cX6_bound 7 RX6 (some .int) s args G A) (hk83 : ∀ (mo_thrown' : Int32) (aFA' : (Nat → Int32)) (aLE' : (Nat → Int32)) (v1' : Int32) (v2' : Int32) (v3' : Int32) (v4' : Int32) (H : Heap) (locs : List Loc) (ls : Array Slot), k83 mo_thrown' aFA' aLE' v1' v2' v3' v4' → va_P G.1 gCl [cMO hMO mo_thrown' mo_size hTM mo_isBoard mo_width mo_height mo_person mo_moves mo_pushes mo_floor mo_goals mo_boxes mo_newFloor mo_newGoals mo_newBoxes mo_newPerson mo_newWidth mo_kept hDO mo_many mo_taken mo_length hXB hXC hXF hXY hXS hXP hFA hLE, cI G hFA 64 aFA', cI G hLE 4096 aLE'] H → va_D A [cMO hMO mo_thrown' mo_size hTM mo_isBoard mo_width mo_height mo_person mo_moves mo_pushes mo_floor mo_goals mo_boxes mo_newFloor mo_newGoals mo_newBoxes mo_newPerson mo_newWidth mo_kept hDO mo_many mo_taken mo_length hXB hXC hXF hXY hXS hXP hFA hLE, cI G hFA 64 aFA', cI G hLE 4096 aLE'] → va_S A s.heap H locs → lv_has ls 7 [(0, .ref hMO), (1, .int v1'), (2, .int v2'), (3, .int v3'), (4, .int v4')] → W p l e rm_MO_bound s m args below meth c H locs 0 0 (MQ below (gQi G (fun (r : Int32) (u : Int32 × (Nat → Int32) × (Nat → Int32)) => post r u.1 u.2.1 u.2.2) (fun (u : Int32 × (Nat → Int32) × (Nat → Int32)) => [cMO hMO u.1 mo_size hTM mo_isBoard mo_width mo_height mo_person mo_moves mo_pushes mo_floor mo_goals mo_boxes mo_newFloor mo_newGoals mo_newBoxes mo_newPerson mo_newWidth mo_kept hDO mo_many mo_taken mo_length hXB hXC hXF hXY hXS hXP hFA hLE, cI G hFA 64 u.2.1, cI G hLE 4096 u.2.2]) A) args s 0 0 A) (F0 m 83 ls [])) : ∀ (mo_thrown : Int32) (aFA : (Nat → Int32)) (aLE : (Nat → Int32)) (v1 : Int32) (v2 : Int32) (v3 : Int32) (v4 : Int32) (v6 : Int32) (t1 : Int32) (H : Heap) (locs : List Loc) (ls : Array Slot), MO_bound_177 mo_width mo_height mo_floor mo_goals mo_boxes k83 post mo_thrown aFA aLE v1 v2 v3 v4 v6 t1 → va_P G.1 gCl [cMO hMO mo_thrown mo_size hTM mo_isBoard mo_width mo_height mo_person mo_moves mo_pushes mo_floor mo_goals mo_boxes mo_newFloor mo_newGoals mo_newBoxes mo_newPerson mo_newWidth mo_kept hDO mo_many mo_taken mo_length hXB hXC hXF hXY hXS hXP hFA hLE, cI G hFA 64 aFA, cI G hLE 4096 aLE] H → va_D A [cMO hMO mo_thrown mo_size hTM mo_isBoard mo_width mo_height mo_person mo_moves mo_pushes mo_floor mo_goals mo_boxes mo_newFloor mo_newGoals mo_newBoxes mo_newPerson mo_newWidth mo_kept hDO mo_many mo_taken mo_length hXB hXC hXF hXY hXS hXP hFA hLE, cI G hFA 64 aFA, cI G hLE 4096 aLE] → va_S A s.heap H locs → lv_has ls 7 [(0, .ref hMO), (1, .int v1), (2, .int v2), (3, .int v3), (4, .int v4), (6, .int v6)] → W p l e rm_MO_bound s m args below meth c H locs 0 0 (MQ below (gQi G (fun (r : Int32) (u : Int32 × (Nat → Int32) × (Nat → Int32)) => post r u.1 u.2.1 u.2.2) (fun (u : Int32 × (Nat → Int32) × (Nat → Int32)) => [cMO hMO u.1 mo_size hTM mo_isBoard mo_width mo_height mo_person mo_moves mo_pushes mo_floor mo_goals mo_boxes mo_newFloor mo_newGoals mo_newBoxes mo_newPerson mo_newWidth mo_kept hDO mo_many mo_taken mo_length hXB hXC hXF hXY hXS hXP hFA hLE, cI G hFA 64 u.2.1, cI G hLE 4096 u.2.2]) A) args s 0 0 A) (F0 m 177 ls [.int t1, .ref hLE]) := by
  intro mo_thrown aFA aLE v1 v2 v3 v4 v6 t1 H locs ls h hP hD hS hl
  unfold MO_bound_177 at h
  refine lv_iload X.1 X.2.1 dX6_bound_177 (lv_at hl 5 rfl) ?_
  refine lv_goto (tgt := 188) X.1 X.2.1 dX6_bound_179 (by decide) ?_
  obtain ⟨hin, h⟩ := h
  refine g_ist X hP hD hS 2 rfl hin dX6_bound_188 (fun aLE_1 e_aLE_1 H locs hP hD hS => ?_)
  replace h := h aLE_1 e_aLE_1
  replace hP : va_P G.1 gCl [cMO hMO mo_thrown mo_size hTM mo_isBoard mo_width mo_height mo_person mo_moves mo_pushes mo_floor mo_goals mo_boxes mo_newFloor mo_newGoals mo_newBoxes mo_newPerson mo_newWidth mo_kept hDO mo_many mo_taken mo_length hXB hXC hXF hXY hXS hXP hFA hLE, cI G hFA 64 aFA, cI G hLE 4096 aLE_1] H := hP
  replace hD : va_D A [cMO hMO mo_thrown mo_size hTM mo_isBoard mo_width mo_height mo_person mo_moves mo_pushes mo_floor mo_goals mo_boxes mo_newFloor mo_newGoals mo_newBoxes mo_newPerson mo_newWidth mo_kept hDO mo_many mo_taken mo_length hXB hXC hXF hXY hXS hXP hFA hLE, cI G hFA 64 aFA, cI G hLE 4096 aLE_1] := hD
  refine lv_iinc (v := (v4 + (1 : Int32))) (lv' := [(4, .int (v4 + (1 : Int32))), (0, .ref hMO), (1, .int v1), (2, .int v2), (3, .int v3), (6, .int v6)]) X.1 X.2.1 dX6_bound_189 hl (k := 4) rfl rfl (by decide) rfl (fun ls hl => ?_)
  refine lv_goto (tgt := 83) X.1 X.2.1 dX6_bound_192 (by decide) ?_
  exact hk83 mo_thrown aFA aLE_1 v1 v2 v3 (v4 + (1 : Int32)) _ _ _ h hP hD hS (lv_sub hl [1, 2, 3, 4, 0] rfl)
set_option maxHeartbeats 4000000 in
set_option maxRecDepth 100000 in
theorem s_MO_bound_83 {p : Program} {l : Launch} {e : Env} {s : State} {m : MethodId} {args : Array Value} {below : List Frame} {meth : Method} {c : Code} {G : gEnv} {A : Nat → Prop} {hMO : Nat} {hTM : Nat} {hDO : Nat} {hXB : Nat} {hXC : Nat} {hXF : Nat} {hXY : Nat} {hXS : Nat} {hXP : Nat} {hFA : Nat} {hLE : Nat} {mo_size : Int32} {mo_isBoard : Int32} {mo_person : Int32} {mo_moves : Int32} {mo_pushes : Int32} {mo_newFloor : Int64} {mo_newGoals : Int64} {mo_newBoxes : Int64} {mo_newPerson : Int32} {mo_newWidth : Int32} {mo_kept : Int32} {mo_many : Int32} {mo_taken : Int32} {mo_length : Int32} {mo_width : Int32} {mo_height : Int32} {mo_floor : Int64} {mo_goals : Int64} {mo_boxes : Int64} {k76 : Int32 → (Nat → Int32) → (Nat → Int32) → Int32 → Int32 → Int32 → Prop} {post : Int32 → Int32 → (Nat → Int32) → (Nat → Int32) → Prop} (X : gX p m meth c cX6_bound 7 RX6 (some .int) s args G A) (hk76 : ∀ (mo_thrown' : Int32) (aFA' : (Nat → Int32)) (aLE' : (Nat → Int32)) (v1' : Int32) (v2' : Int32) (v3' : Int32) (H : Heap) (locs : List Loc) (ls : Array Slot), k76 mo_thrown' aFA' aLE' v1' v2' v3' → va_P G.1 gCl [cMO hMO mo_thrown' mo_size hTM mo_isBoard mo_width mo_height mo_person mo_moves mo_pushes mo_floor mo_goals mo_boxes mo_newFloor mo_newGoals mo_newBoxes mo_newPerson mo_newWidth mo_kept hDO mo_many mo_taken mo_length hXB hXC hXF hXY hXS hXP hFA hLE, cI G hFA 64 aFA', cI G hLE 4096 aLE'] H → va_D A [cMO hMO mo_thrown' mo_size hTM mo_isBoard mo_width mo_height mo_person mo_moves mo_pushes mo_floor mo_goals mo_boxes mo_newFloor mo_newGoals mo_newBoxes mo_newPerson mo_newWidth mo_kept hDO mo_many mo_taken mo_length hXB hXC hXF hXY hXS hXP hFA hLE, cI G hFA 64 aFA', cI G hLE 4096 aLE'] → va_S A s.heap H locs → lv_has ls 7 [(0, .ref hMO), (1, .int v1'), (2, .int v2'), (3, .int v3')] → W p l e rm_MO_bound s m args below meth c H locs 0 0 (MQ below (gQi G (fun (r : Int32) (u : Int32 × (Nat → Int32) × (Nat → Int32)) => post r u.1 u.2.1 u.2.2) (fun (u : Int32 × (Nat → Int32) × (Nat → Int32)) => [cMO hMO u.1 mo_size hTM mo_isBoard mo_width mo_height mo_person mo_moves mo_pushes mo_floor mo_goals mo_boxes mo_newFloor mo_newGoals mo_newBoxes mo_newPerson mo_newWidth mo_kept hDO mo_many mo_taken mo_length hXB hXC hXF hXY hXS hXP hFA hLE, cI G hFA 64 u.2.1, cI G hLE 4096 u.2.2]) A) args s 0 0 A) (F0 m 76 ls [])) : ∀ (n : Nat) (mo_thrown : Int32) (aFA : (Nat → Int32)) (aLE : (Nat → Int32)) (v1 : Int32) (v2 : Int32) (v3 : Int32) (v4 : Int32) (H : Heap) (locs : List Loc) (ls : Array Slot), MO_bound_83 mo_width mo_height mo_floor mo_goals mo_boxes k76 post n mo_thrown aFA aLE v1 v2 v3 v4 → va_P G.1 gCl [cMO hMO mo_thrown mo_size hTM mo_isBoard mo_width mo_height mo_person mo_moves mo_pushes mo_floor mo_goals mo_boxes mo_newFloor mo_newGoals mo_newBoxes mo_newPerson mo_newWidth mo_kept hDO mo_many mo_taken mo_length hXB hXC hXF hXY hXS hXP hFA hLE, cI G hFA 64 aFA, cI G hLE 4096 aLE] H → va_D A [cMO hMO mo_thrown mo_size hTM mo_isBoard mo_width mo_height mo_person mo_moves mo_pushes mo_floor mo_goals mo_boxes mo_newFloor mo_newGoals mo_newBoxes mo_newPerson mo_newWidth mo_kept hDO mo_many mo_taken mo_length hXB hXC hXF hXY hXS hXP hFA hLE, cI G hFA 64 aFA, cI G hLE 4096 aLE] → va_S A s.heap H locs → lv_has ls 7 [(0, .ref hMO), (1, .int v1), (2, .int v2), (3, .int v3), (4, .int v4)] → W p l e rm_MO_bound s m args below meth c H locs 0 0 (MQ below (gQi G (fun (r : Int32) (u : Int32 × (Nat → Int32) × (Nat → Int32)) => post r u.1 u.2.1 u.2.2) (fun (u : Int32 × (Nat → Int32) × (Nat → Int32)) => [cMO hMO u.1 mo_size hTM mo_isBoard mo_width mo_height mo_person mo_moves mo_pushes mo_floor mo_goals mo_boxes mo_newFloor mo_newGoals mo_newBoxes mo_newPerson mo_newWidth mo_kept hDO mo_many mo_taken mo_length hXB hXC hXF hXY hXS hXP hFA hLE, cI G hFA 64 u.2.1, cI G hLE 4096 u.2.2]) A) args s 0 0 A) (F0 m 83 ls []) := by
  intro n
  induction n with
  | zero => intro mo_thrown aFA aLE v1 v2 v3 v4 H locs ls h _ _ _ _; exact h.elim
  | succ n ih =>
    intro mo_thrown aFA aLE v1 v2 v3 v4 H locs ls h hP hD hS hl
    unfold MO_bound_83 at h
    refine lv_iload X.1 X.2.1 dX6_bound_83 (lv_at hl 4 rfl) ?_
    refine lv_iload_n X.1 X.2.1 dX6_bound_85 rfl (lv_at hl 1 rfl) ?_
    refine lv_icmp_ge (tgt := 195) X.1 X.2.1 dX6_bound_86 (by decide) (fun hc => ?_) (fun hc => ?_)
    · replace h := Eq.mp (if_pos hc) h
      refine lv_iinc (v := (v3 + (-1 : Int32))) (lv' := [(3, .int (v3 + (-1 : Int32))), (0, .ref hMO), (1, .int v1), (2, .int v2), (4, .int v4)]) X.1 X.2.1 dX6_bound_195 hl (k := 3) rfl rfl (by decide) rfl (fun ls hl => ?_)
      refine lv_goto (tgt := 76) X.1 X.2.1 dX6_bound_198 (by decide) ?_
      exact hk76 mo_thrown aFA aLE v1 v2 (v3 + (-1 : Int32)) _ _ _ h hP hD hS (lv_sub hl [1, 2, 3, 0] rfl)
    · replace h := Eq.mp (if_neg hc) h
      refine lv_iload_n X.1 X.2.1 dX6_bound_89 rfl (lv_at hl 3 rfl) ?_
      refine lv_iload X.1 X.2.1 dX6_bound_90 (lv_at hl 4 rfl) ?_
      refine lv_ishr X.1 X.2.1 dX6_bound_92 ?_
      refine lv_iconst (v := (1 : Int32)) X.1 X.2.1 dX6_bound_93 (by decide) ?_
      refine lv_iand X.1 X.2.1 dX6_bound_94 ?_
      refine lv_if_eq (tgt := 189) X.1 X.2.1 dX6_bound_95 (by decide) (fun hc => ?_) (fun hc => ?_)
      · replace h := Eq.mp (if_pos hc) h
        refine lv_iinc (v := (v4 + (1 : Int32))) (lv' := [(4, .int (v4 + (1 : Int32))), (0, .ref hMO), (1, .int v1), (2, .int v2), (3, .int v3)]) X.1 X.2.1 dX6_bound_189 hl (k := 4) rfl rfl (by decide) rfl (fun ls hl => ?_)
        refine lv_goto (tgt := 83) X.1 X.2.1 dX6_bound_192 (by decide) ?_
        exact ih mo_thrown aFA aLE v1 v2 v3 (v4 + (1 : Int32)) _ _ _ h hP hD hS (lv_sub hl [1, 2, 3, 4, 0] rfl)
      · replace h := Eq.mp (if_neg hc) h
        refine lv_aload_n X.1 X.2.1 dX6_bound_98 rfl (lv_at hl 0 rfl) ?_
        refine g_get X hP 0 6 29 (v := .ref hLE) rfl rfl inX6 (by decide) fl_X6_39 rfl dX6_bound_99 ?_
        refine lv_iload_n X.1 X.2.1 dX6_bound_102 rfl (lv_at hl 3 rfl) ?_
        refine lv_iconst (v := (1 : Int32)) X.1 X.2.1 dX6_bound_103 (by decide) ?_
        refine lv_iload X.1 X.2.1 dX6_bound_104 (lv_at hl 4 rfl) ?_
        refine lv_ishl X.1 X.2.1 dX6_bound_106 ?_
        refine lv_ixor X.1 X.2.1 dX6_bound_107 ?_
        obtain ⟨hin, h⟩ := h
        refine va_iald (D := G.1) X.1 X.2.1 X.k.1 hP 2 0 rfl rfl hin dX6_bound_108 ?_
        refine lv_if_ge (tgt := 115) X.1 X.2.1 dX6_bound_109 (by decide) (fun hc => ?_) (fun hc => ?_)
        · replace h := Eq.mp (if_pos hc) h
          refine lv_aload_n X.1 X.2.1 dX6_bound_115 rfl (lv_at hl 0 rfl) ?_
          refine g_get X hP 0 6 28 (v := .ref hFA) rfl rfl inX6 (by decide) fl_X6_36 rfl dX6_bound_116 ?_
          refine lv_aload_n X.1 X.2.1 dX6_bound_119 rfl (lv_at hl 0 rfl) ?_
          refine lv_iload X.1 X.2.1 dX6_bound_120 (lv_at hl 4 rfl) ?_
          refine g_ci (wr := [cI G hFA 64 aFA, cI G hLE 4096 aLE]) X [0] [1, 2] (g_rV (As := [.int v4]) (rest := [.ref hFA]) X (c_MO_goalAt l G hMO hTM hDO hXB hXC hXF hXY hXS hXP hFA hLE mo_thrown mo_size mo_isBoard mo_width mo_height mo_person mo_moves mo_pushes mo_floor mo_goals mo_boxes mo_newFloor mo_newGoals mo_newBoxes mo_newPerson mo_newWidth mo_kept mo_many mo_taken mo_length v4 _ h _) lk_X6_159 rfl rfl ⟨Nat.le_of_ble_eq_true rfl, Nat.le_of_ble_eq_true rfl⟩ hP hD hS [0] rfl rfl 0 6 rfl rfl rfl hl.1 rfl (Nat.le_of_ble_eq_true rfl) dX6_bound_122 ⟨Nat.le_of_ble_eq_true rfl, Nat.le_of_ble_eq_true rfl⟩) hP hD hS rfl rfl rfl (by decide) (fun r_1 u H locs h hP hD hS => ?_)
          try dsimp only at h
          replace hP := hP.sub (ws' := [cMO hMO mo_thrown mo_size hTM mo_isBoard mo_width mo_height mo_person mo_moves mo_pushes mo_floor mo_goals mo_boxes mo_newFloor mo_newGoals mo_newBoxes mo_newPerson mo_newWidth mo_kept hDO mo_many mo_taken mo_length hXB hXC hXF hXY hXS hXP hFA hLE, cI G hFA 64 aFA, cI G hLE 4096 aLE]) [2, 0, 1] rfl
          replace hD := hD.sub (ws' := [cMO hMO mo_thrown mo_size hTM mo_isBoard mo_width mo_height mo_person mo_moves mo_pushes mo_floor mo_goals mo_boxes mo_newFloor mo_newGoals mo_newBoxes mo_newPerson mo_newWidth mo_kept hDO mo_many mo_taken mo_length hXB hXC hXF hXY hXS hXP hFA hLE, cI G hFA 64 aFA, cI G hLE 4096 aLE]) [2, 0, 1] rfl rfl
          obtain ⟨hin, h⟩ := h
          refine va_iald (D := G.1) X.1 X.2.1 X.k.1 hP 1 0 rfl rfl hin dX6_bound_125 ?_
          refine lv_topi (fun v5_2 e_v5_2 => ?_)
          replace h := h v5_2 e_v5_2
          refine lv_istore (lv' := [(5, .int v5_2), (0, .ref hMO), (1, .int v1), (2, .int v2), (3, .int v3), (4, .int v4)]) X.1 X.2.1 dX6_bound_126 hl (by decide) rfl (fun ls hl => ?_)
          refine lv_iload X.1 X.2.1 dX6_bound_128 (lv_at hl 0 rfl) ?_
          refine lv_if_ge (tgt := 136) X.1 X.2.1 dX6_bound_130 (by decide) (fun hc => ?_) (fun hc => ?_)
          · replace h := Eq.mp (if_pos hc) h
            refine lv_aload_n X.1 X.2.1 dX6_bound_136 rfl (lv_at hl 1 rfl) ?_
            refine g_get X hP 0 6 29 (v := .ref hLE) rfl rfl inX6 (by decide) fl_X6_39 rfl dX6_bound_137 ?_
            refine lv_iload_n X.1 X.2.1 dX6_bound_140 rfl (lv_at hl 4 rfl) ?_
            refine lv_iconst (v := (1 : Int32)) X.1 X.2.1 dX6_bound_141 (by decide) ?_
            refine lv_iload X.1 X.2.1 dX6_bound_142 (lv_at hl 5 rfl) ?_
            refine lv_ishl X.1 X.2.1 dX6_bound_144 ?_
            refine lv_ixor X.1 X.2.1 dX6_bound_145 ?_
            obtain ⟨hin, h⟩ := h
            refine va_iald (D := G.1) X.1 X.2.1 X.k.1 hP 2 0 rfl rfl hin dX6_bound_146 ?_
            refine lv_iload X.1 X.2.1 dX6_bound_147 (lv_at hl 0 rfl) ?_
            refine lv_iadd X.1 X.2.1 dX6_bound_149 ?_
            refine lv_topi (fun v6_3 e_v6_3 => ?_)
            replace h := h v6_3 e_v6_3
            refine lv_istore (lv' := [(6, .int v6_3), (5, .int v5_2), (0, .ref hMO), (1, .int v1), (2, .int v2), (3, .int v3), (4, .int v4)]) X.1 X.2.1 dX6_bound_150 hl (by decide) rfl (fun ls hl => ?_)
            refine lv_aload_n X.1 X.2.1 dX6_bound_152 rfl (lv_at hl 2 rfl) ?_
            refine g_get X hP 0 6 29 (v := .ref hLE) rfl rfl inX6 (by decide) fl_X6_39 rfl dX6_bound_153 ?_
            refine lv_iload_n X.1 X.2.1 dX6_bound_156 rfl (lv_at hl 5 rfl) ?_
            refine lv_aload_n X.1 X.2.1 dX6_bound_157 rfl (lv_at hl 2 rfl) ?_
            refine g_get X hP 0 6 29 (v := .ref hLE) rfl rfl inX6 (by decide) fl_X6_39 rfl dX6_bound_158 ?_
            refine lv_iload_n X.1 X.2.1 dX6_bound_161 rfl (lv_at hl 5 rfl) ?_
            obtain ⟨hin, h⟩ := h
            refine va_iald (D := G.1) X.1 X.2.1 X.k.1 hP 2 0 rfl rfl hin dX6_bound_162 ?_
            refine lv_if_lt (tgt := 177) X.1 X.2.1 dX6_bound_163 (by decide) (fun hc => ?_) (fun hc => ?_)
            · replace h := Eq.mp (if_pos hc) h
              exact s_MO_bound_177 X (fun mo_thrown' aFA' aLE' v1' v2' v3' v4' H' locs' ls' h' hP' hD' hS' hl' => ih mo_thrown' aFA' aLE' v1' v2' v3' v4' H' locs' ls' h' hP' hD' hS' hl') mo_thrown aFA aLE v1 v2 v3 v4 v6_3 v3 _ _ _ h hP hD hS (lv_sub hl [2, 3, 4, 5, 6, 0] rfl)
            · replace h := Eq.mp (if_neg hc) h
              refine lv_iload X.1 X.2.1 dX6_bound_166 (lv_at hl 0 rfl) ?_
              refine lv_aload_n X.1 X.2.1 dX6_bound_168 rfl (lv_at hl 2 rfl) ?_
              refine g_get X hP 0 6 29 (v := .ref hLE) rfl rfl inX6 (by decide) fl_X6_39 rfl dX6_bound_169 ?_
              refine lv_iload_n X.1 X.2.1 dX6_bound_172 rfl (lv_at hl 5 rfl) ?_
              obtain ⟨hin, h⟩ := h
              refine va_iald (D := G.1) X.1 X.2.1 X.k.1 hP 2 0 rfl rfl hin dX6_bound_173 ?_
              refine lv_icmp_ge (tgt := 182) X.1 X.2.1 dX6_bound_174 (by decide) (fun hc => ?_) (fun hc => ?_)
              · replace h := Eq.mp (if_pos hc) h
                refine lv_aload_n X.1 X.2.1 dX6_bound_182 rfl (lv_at hl 2 rfl) ?_
                refine g_get X hP 0 6 29 (v := .ref hLE) rfl rfl inX6 (by decide) fl_X6_39 rfl dX6_bound_183 ?_
                refine lv_iload_n X.1 X.2.1 dX6_bound_186 rfl (lv_at hl 5 rfl) ?_
                obtain ⟨hin, h⟩ := h
                refine va_iald (D := G.1) X.1 X.2.1 X.k.1 hP 2 0 rfl rfl hin dX6_bound_187 ?_
                refine lv_topi (fun x_4 e_x_4 => ?_)
                replace h := h x_4 e_x_4
                obtain ⟨hin, h⟩ := h
                refine g_ist X hP hD hS 2 rfl hin dX6_bound_188 (fun aLE_5 e_aLE_5 H locs hP hD hS => ?_)
                replace h := h aLE_5 e_aLE_5
                replace hP : va_P G.1 gCl [cMO hMO mo_thrown mo_size hTM mo_isBoard mo_width mo_height mo_person mo_moves mo_pushes mo_floor mo_goals mo_boxes mo_newFloor mo_newGoals mo_newBoxes mo_newPerson mo_newWidth mo_kept hDO mo_many mo_taken mo_length hXB hXC hXF hXY hXS hXP hFA hLE, cI G hFA 64 aFA, cI G hLE 4096 aLE_5] H := hP
                replace hD : va_D A [cMO hMO mo_thrown mo_size hTM mo_isBoard mo_width mo_height mo_person mo_moves mo_pushes mo_floor mo_goals mo_boxes mo_newFloor mo_newGoals mo_newBoxes mo_newPerson mo_newWidth mo_kept hDO mo_many mo_taken mo_length hXB hXC hXF hXY hXS hXP hFA hLE, cI G hFA 64 aFA, cI G hLE 4096 aLE_5] := hD
                refine lv_iinc (v := (v4 + (1 : Int32))) (lv' := [(4, .int (v4 + (1 : Int32))), (6, .int v6_3), (5, .int v5_2), (0, .ref hMO), (1, .int v1), (2, .int v2), (3, .int v3)]) X.1 X.2.1 dX6_bound_189 hl (k := 6) rfl rfl (by decide) rfl (fun ls hl => ?_)
                refine lv_goto (tgt := 83) X.1 X.2.1 dX6_bound_192 (by decide) ?_
                exact ih mo_thrown aFA aLE_5 v1 v2 v3 (v4 + (1 : Int32)) _ _ _ h hP hD hS (lv_sub hl [3, 4, 5, 6, 0] rfl)
              · replace h := Eq.mp (if_neg hc) h
                exact s_MO_bound_177 X (fun mo_thrown' aFA' aLE' v1' v2' v3' v4' H' locs' ls' h' hP' hD' hS' hl' => ih mo_thrown' aFA' aLE' v1' v2' v3' v4' H' locs' ls' h' hP' hD' hS' hl') mo_thrown aFA aLE v1 v2 v3 v4 v6_3 v3 _ _ _ h hP hD hS (lv_sub hl [2, 3, 4, 5, 6, 0] rfl)
          · replace h := Eq.mp (if_neg hc) h
            refine lv_goto (tgt := 189) X.1 X.2.1 dX6_bound_133 (by decide) ?_
            refine lv_iinc (v := (v4 + (1 : Int32))) (lv' := [(4, .int (v4 + (1 : Int32))), (5, .int v5_2), (0, .ref hMO), (1, .int v1), (2, .int v2), (3, .int v3)]) X.1 X.2.1 dX6_bound_189 hl (k := 5) rfl rfl (by decide) rfl (fun ls hl => ?_)
            refine lv_goto (tgt := 83) X.1 X.2.1 dX6_bound_192 (by decide) ?_
            exact ih mo_thrown aFA aLE v1 v2 v3 (v4 + (1 : Int32)) _ _ _ h hP hD hS (lv_sub hl [2, 3, 4, 5, 0] rfl)
        · replace h := Eq.mp (if_neg hc) h
          refine lv_goto (tgt := 189) X.1 X.2.1 dX6_bound_112 (by decide) ?_
          refine lv_iinc (v := (v4 + (1 : Int32))) (lv' := [(4, .int (v4 + (1 : Int32))), (0, .ref hMO), (1, .int v1), (2, .int v2), (3, .int v3)]) X.1 X.2.1 dX6_bound_189 hl (k := 4) rfl rfl (by decide) rfl (fun ls hl => ?_)
          refine lv_goto (tgt := 83) X.1 X.2.1 dX6_bound_192 (by decide) ?_
          exact ih mo_thrown aFA aLE v1 v2 v3 (v4 + (1 : Int32)) _ _ _ h hP hD hS (lv_sub hl [1, 2, 3, 4, 0] rfl)
set_option maxHeartbeats 4000000 in
set_option maxRecDepth 100000 in
theorem s_MO_bound_76 {p : Program} {l : Launch} {e : Env} {s : State} {m : MethodId} {args : Array Value} {below : List Frame} {meth : Method} {c : Code} {G : gEnv} {A : Nat → Prop} {hMO : Nat} {hTM : Nat} {hDO : Nat} {hXB : Nat} {hXC : Nat} {hXF : Nat} {hXY : Nat} {hXS : Nat} {hXP : Nat} {hFA : Nat} {hLE : Nat} {mo_size : Int32} {mo_isBoard : Int32} {mo_person : Int32} {mo_moves : Int32} {mo_pushes : Int32} {mo_newFloor : Int64} {mo_newGoals : Int64} {mo_newBoxes : Int64} {mo_newPerson : Int32} {mo_newWidth : Int32} {mo_kept : Int32} {mo_many : Int32} {mo_taken : Int32} {mo_length : Int32} {mo_width : Int32} {mo_height : Int32} {mo_floor : Int64} {mo_goals : Int64} {mo_boxes : Int64} {k45 : Int32 → (Nat → Int32) → (Nat → Int32) → Int32 → Int32 → Prop} {post : Int32 → Int32 → (Nat → Int32) → (Nat → Int32) → Prop} (X : gX p m meth c cX6_bound 7 RX6 (some .int) s args G A) (hk45 : ∀ (mo_thrown' : Int32) (aFA' : (Nat → Int32)) (aLE' : (Nat → Int32)) (v1' : Int32) (v2' : Int32) (H : Heap) (locs : List Loc) (ls : Array Slot), k45 mo_thrown' aFA' aLE' v1' v2' → va_P G.1 gCl [cMO hMO mo_thrown' mo_size hTM mo_isBoard mo_width mo_height mo_person mo_moves mo_pushes mo_floor mo_goals mo_boxes mo_newFloor mo_newGoals mo_newBoxes mo_newPerson mo_newWidth mo_kept hDO mo_many mo_taken mo_length hXB hXC hXF hXY hXS hXP hFA hLE, cI G hFA 64 aFA', cI G hLE 4096 aLE'] H → va_D A [cMO hMO mo_thrown' mo_size hTM mo_isBoard mo_width mo_height mo_person mo_moves mo_pushes mo_floor mo_goals mo_boxes mo_newFloor mo_newGoals mo_newBoxes mo_newPerson mo_newWidth mo_kept hDO mo_many mo_taken mo_length hXB hXC hXF hXY hXS hXP hFA hLE, cI G hFA 64 aFA', cI G hLE 4096 aLE'] → va_S A s.heap H locs → lv_has ls 7 [(0, .ref hMO), (1, .int v1'), (2, .int v2')] → W p l e rm_MO_bound s m args below meth c H locs 0 0 (MQ below (gQi G (fun (r : Int32) (u : Int32 × (Nat → Int32) × (Nat → Int32)) => post r u.1 u.2.1 u.2.2) (fun (u : Int32 × (Nat → Int32) × (Nat → Int32)) => [cMO hMO u.1 mo_size hTM mo_isBoard mo_width mo_height mo_person mo_moves mo_pushes mo_floor mo_goals mo_boxes mo_newFloor mo_newGoals mo_newBoxes mo_newPerson mo_newWidth mo_kept hDO mo_many mo_taken mo_length hXB hXC hXF hXY hXS hXP hFA hLE, cI G hFA 64 u.2.1, cI G hLE 4096 u.2.2]) A) args s 0 0 A) (F0 m 45 ls [])) : ∀ (n : Nat) (mo_thrown : Int32) (aFA : (Nat → Int32)) (aLE : (Nat → Int32)) (v1 : Int32) (v2 : Int32) (v3 : Int32) (H : Heap) (locs : List Loc) (ls : Array Slot), MO_bound_76 mo_width mo_height mo_floor mo_goals mo_boxes k45 post n mo_thrown aFA aLE v1 v2 v3 → va_P G.1 gCl [cMO hMO mo_thrown mo_size hTM mo_isBoard mo_width mo_height mo_person mo_moves mo_pushes mo_floor mo_goals mo_boxes mo_newFloor mo_newGoals mo_newBoxes mo_newPerson mo_newWidth mo_kept hDO mo_many mo_taken mo_length hXB hXC hXF hXY hXS hXP hFA hLE, cI G hFA 64 aFA, cI G hLE 4096 aLE] H → va_D A [cMO hMO mo_thrown mo_size hTM mo_isBoard mo_width mo_height mo_person mo_moves mo_pushes mo_floor mo_goals mo_boxes mo_newFloor mo_newGoals mo_newBoxes mo_newPerson mo_newWidth mo_kept hDO mo_many mo_taken mo_length hXB hXC hXF hXY hXS hXP hFA hLE, cI G hFA 64 aFA, cI G hLE 4096 aLE] → va_S A s.heap H locs → lv_has ls 7 [(0, .ref hMO), (1, .int v1), (2, .int v2), (3, .int v3)] → W p l e rm_MO_bound s m args below meth c H locs 0 0 (MQ below (gQi G (fun (r : Int32) (u : Int32 × (Nat → Int32) × (Nat → Int32)) => post r u.1 u.2.1 u.2.2) (fun (u : Int32 × (Nat → Int32) × (Nat → Int32)) => [cMO hMO u.1 mo_size hTM mo_isBoard mo_width mo_height mo_person mo_moves mo_pushes mo_floor mo_goals mo_boxes mo_newFloor mo_newGoals mo_newBoxes mo_newPerson mo_newWidth mo_kept hDO mo_many mo_taken mo_length hXB hXC hXF hXY hXS hXP hFA hLE, cI G hFA 64 u.2.1, cI G hLE 4096 u.2.2]) A) args s 0 0 A) (F0 m 76 ls []) := by
  intro n
  induction n with
  | zero => intro mo_thrown aFA aLE v1 v2 v3 H locs ls h _ _ _ _; exact h.elim
  | succ n ih =>
    intro mo_thrown aFA aLE v1 v2 v3 H locs ls h hP hD hS hl
    unfold MO_bound_76 at h
    refine lv_iload_n X.1 X.2.1 dX6_bound_76 rfl (lv_at hl 3 rfl) ?_
    refine lv_if_le (tgt := 201) X.1 X.2.1 dX6_bound_77 (by decide) (fun hc => ?_) (fun hc => ?_)
    · replace h := Eq.mp (if_pos hc) h
      refine lv_iinc (v := (v2 + (1 : Int32))) (lv' := [(2, .int (v2 + (1 : Int32))), (0, .ref hMO), (1, .int v1), (3, .int v3)]) X.1 X.2.1 dX6_bound_201 hl (k := 2) rfl rfl (by decide) rfl (fun ls hl => ?_)
      refine lv_goto (tgt := 45) X.1 X.2.1 dX6_bound_204 (by decide) ?_
      exact hk45 mo_thrown aFA aLE v1 (v2 + (1 : Int32)) _ _ _ h hP hD hS (lv_sub hl [1, 2, 0] rfl)
    · replace h := Eq.mp (if_neg hc) h
      refine lv_iconst (v := (0 : Int32)) X.1 X.2.1 dX6_bound_80 (by decide) ?_
      refine lv_istore (lv' := [(4, .int (0 : Int32)), (0, .ref hMO), (1, .int v1), (2, .int v2), (3, .int v3)]) X.1 X.2.1 dX6_bound_81 hl (by decide) rfl (fun ls hl => ?_)
      obtain ⟨n', h⟩ := h
      exact s_MO_bound_83 X (fun mo_thrown' aFA' aLE' v1' v2' v3' H' locs' ls' h' hP' hD' hS' hl' => ih mo_thrown' aFA' aLE' v1' v2' v3' H' locs' ls' h' hP' hD' hS' hl') n' mo_thrown aFA aLE v1 v2 v3 (0 : Int32) _ _ _ h hP hD hS (lv_sub hl [1, 2, 3, 4, 0] rfl)
set_option maxHeartbeats 4000000 in
set_option maxRecDepth 100000 in
theorem s_MO_bound_45 {p : Program} {l : Launch} {e : Env} {s : State} {m : MethodId} {args : Array Value} {below : List Frame} {meth : Method} {c : Code} {G : gEnv} {A : Nat → Prop} {hMO : Nat} {hTM : Nat} {hDO : Nat} {hXB : Nat} {hXC : Nat} {hXF : Nat} {hXY : Nat} {hXS : Nat} {hXP : Nat} {hFA : Nat} {hLE : Nat} {mo_size : Int32} {mo_isBoard : Int32} {mo_person : Int32} {mo_moves : Int32} {mo_pushes : Int32} {mo_newFloor : Int64} {mo_newGoals : Int64} {mo_newBoxes : Int64} {mo_newPerson : Int32} {mo_newWidth : Int32} {mo_kept : Int32} {mo_many : Int32} {mo_taken : Int32} {mo_length : Int32} {mo_width : Int32} {mo_height : Int32} {mo_floor : Int64} {mo_goals : Int64} {mo_boxes : Int64} {post : Int32 → Int32 → (Nat → Int32) → (Nat → Int32) → Prop} (X : gX p m meth c cX6_bound 7 RX6 (some .int) s args G A)  : ∀ (n : Nat) (mo_thrown : Int32) (aFA : (Nat → Int32)) (aLE : (Nat → Int32)) (v1 : Int32) (v2 : Int32) (H : Heap) (locs : List Loc) (ls : Array Slot), MO_bound_45 mo_width mo_height mo_floor mo_goals mo_boxes post n mo_thrown aFA aLE v1 v2 → va_P G.1 gCl [cMO hMO mo_thrown mo_size hTM mo_isBoard mo_width mo_height mo_person mo_moves mo_pushes mo_floor mo_goals mo_boxes mo_newFloor mo_newGoals mo_newBoxes mo_newPerson mo_newWidth mo_kept hDO mo_many mo_taken mo_length hXB hXC hXF hXY hXS hXP hFA hLE, cI G hFA 64 aFA, cI G hLE 4096 aLE] H → va_D A [cMO hMO mo_thrown mo_size hTM mo_isBoard mo_width mo_height mo_person mo_moves mo_pushes mo_floor mo_goals mo_boxes mo_newFloor mo_newGoals mo_newBoxes mo_newPerson mo_newWidth mo_kept hDO mo_many mo_taken mo_length hXB hXC hXF hXY hXS hXP hFA hLE, cI G hFA 64 aFA, cI G hLE 4096 aLE] → va_S A s.heap H locs → lv_has ls 7 [(0, .ref hMO), (1, .int v1), (2, .int v2)] → W p l e rm_MO_bound s m args below meth c H locs 0 0 (MQ below (gQi G (fun (r : Int32) (u : Int32 × (Nat → Int32) × (Nat → Int32)) => post r u.1 u.2.1 u.2.2) (fun (u : Int32 × (Nat → Int32) × (Nat → Int32)) => [cMO hMO u.1 mo_size hTM mo_isBoard mo_width mo_height mo_person mo_moves mo_pushes mo_floor mo_goals mo_boxes mo_newFloor mo_newGoals mo_newBoxes mo_newPerson mo_newWidth mo_kept hDO mo_many mo_taken mo_length hXB hXC hXF hXY hXS hXP hFA hLE, cI G hFA 64 u.2.1, cI G hLE 4096 u.2.2]) A) args s 0 0 A) (F0 m 45 ls []) := by
  intro n
  induction n with
  | zero => intro mo_thrown aFA aLE v1 v2 H locs ls h _ _ _ _; exact h.elim
  | succ n ih =>
    intro mo_thrown aFA aLE v1 v2 H locs ls h hP hD hS hl
    unfold MO_bound_45 at h
    refine lv_iload_n X.1 X.2.1 dX6_bound_45 rfl (lv_at hl 2 rfl) ?_
    refine lv_bipush (v := (64 : Int32)) X.1 X.2.1 dX6_bound_46 (by decide) ?_
    refine lv_icmp_ge (tgt := 207) X.1 X.2.1 dX6_bound_48 (by decide) (fun hc => ?_) (fun hc => ?_)
    · replace h := Eq.mp (if_pos hc) h
      refine lv_aload_n X.1 X.2.1 dX6_bound_207 rfl (lv_at hl 0 rfl) ?_
      refine g_get X hP 0 6 29 (v := .ref hLE) rfl rfl inX6 (by decide) fl_X6_39 rfl dX6_bound_208 ?_
      refine lv_iconst (v := (1 : Int32)) X.1 X.2.1 dX6_bound_211 (by decide) ?_
      refine lv_iload_n X.1 X.2.1 dX6_bound_212 rfl (lv_at hl 1 rfl) ?_
      refine lv_ishl X.1 X.2.1 dX6_bound_213 ?_
      refine lv_iconst (v := (1 : Int32)) X.1 X.2.1 dX6_bound_214 (by decide) ?_
      refine lv_isub X.1 X.2.1 dX6_bound_215 ?_
      obtain ⟨hin, h⟩ := h
      refine va_iald (D := G.1) X.1 X.2.1 X.k.1 hP 2 0 rfl rfl hin dX6_bound_216 ?_
      exact g_iret X (mo_thrown, aFA, aLE) h hP hD hS dX6_bound_217
    · replace h := Eq.mp (if_neg hc) h
      refine lv_aload_n X.1 X.2.1 dX6_bound_51 rfl (lv_at hl 0 rfl) ?_
      refine g_get X hP 0 6 11 (v := .long mo_boxes) rfl rfl inX6 (by decide) fl_X6_97 rfl dX6_bound_52 ?_
      refine lv_iload_n X.1 X.2.1 dX6_bound_55 rfl (lv_at hl 2 rfl) ?_
      refine g_ci (wr := [cMO hMO mo_thrown mo_size hTM mo_isBoard mo_width mo_height mo_person mo_moves mo_pushes mo_floor mo_goals mo_boxes mo_newFloor mo_newGoals mo_newBoxes mo_newPerson mo_newWidth mo_kept hDO mo_many mo_taken mo_length hXB hXC hXF hXY hXS hXP hFA hLE, cI G hFA 64 aFA, cI G hLE 4096 aLE]) X [] [0, 1, 2] (g_rS (As := [.long mo_boxes, .int v2]) (rest := []) X (c_MO_has l G mo_boxes v2 _ h _) lk_X6_90 rfl rfl ⟨Nat.le_of_ble_eq_true rfl, Nat.le_of_ble_eq_true rfl⟩ hP hD hS [] rfl rfl rfl hl.1 rfl (Nat.le_of_ble_eq_true rfl) dX6_bound_56 ⟨Nat.le_of_ble_eq_true rfl, Nat.le_of_ble_eq_true rfl⟩) hP hD hS rfl rfl rfl (by decide) (fun r_1 u H locs h hP hD hS => ?_)
      try dsimp only at h
      replace hP := hP.sub (ws' := [cMO hMO mo_thrown mo_size hTM mo_isBoard mo_width mo_height mo_person mo_moves mo_pushes mo_floor mo_goals mo_boxes mo_newFloor mo_newGoals mo_newBoxes mo_newPerson mo_newWidth mo_kept hDO mo_many mo_taken mo_length hXB hXC hXF hXY hXS hXP hFA hLE, cI G hFA 64 aFA, cI G hLE 4096 aLE]) [0, 1, 2] rfl
      replace hD := hD.sub (ws' := [cMO hMO mo_thrown mo_size hTM mo_isBoard mo_width mo_height mo_person mo_moves mo_pushes mo_floor mo_goals mo_boxes mo_newFloor mo_newGoals mo_newBoxes mo_newPerson mo_newWidth mo_kept hDO mo_many mo_taken mo_length hXB hXC hXF hXY hXS hXP hFA hLE, cI G hFA 64 aFA, cI G hLE 4096 aLE]) [0, 1, 2] rfl rfl
      refine lv_if_ne (tgt := 65) X.1 X.2.1 dX6_bound_59 (by decide) (fun hc => ?_) (fun hc => ?_)
      · replace h := Eq.mp (if_neg hc) h
        refine lv_aload_n X.1 X.2.1 dX6_bound_65 rfl (lv_at hl 0 rfl) ?_
        refine lv_iload_n X.1 X.2.1 dX6_bound_66 rfl (lv_at hl 2 rfl) ?_
        refine g_cv (wr := [cI G hLE 4096 aLE]) X [0, 1] [2] (g_rV (As := [.int v2]) (rest := []) X (c_MO_measure l G hMO hTM hDO hXB hXC hXF hXY hXS hXP hFA hLE mo_thrown mo_size mo_isBoard mo_width mo_height mo_person mo_moves mo_pushes mo_floor mo_goals mo_boxes mo_newFloor mo_newGoals mo_newBoxes mo_newPerson mo_newWidth mo_kept mo_many mo_taken mo_length aFA v2 _ h _) lk_X6_155 rfl rfl ⟨Nat.le_of_ble_eq_true rfl, Nat.le_of_ble_eq_true rfl⟩ hP hD hS [0, 1] rfl rfl 0 6 rfl rfl rfl hl.1 rfl (Nat.le_of_ble_eq_true rfl) dX6_bound_67 ⟨Nat.le_of_ble_eq_true rfl, Nat.le_of_ble_eq_true rfl⟩) hP hD hS rfl rfl rfl (by decide) (fun u H locs h hP hD hS => ?_)
        obtain ⟨aFA_2, rfl⟩ : ∃ z, z = u := ⟨_, rfl⟩
        try dsimp only at h
        replace hP := hP.sub (ws' := [cMO hMO mo_thrown mo_size hTM mo_isBoard mo_width mo_height mo_person mo_moves mo_pushes mo_floor mo_goals mo_boxes mo_newFloor mo_newGoals mo_newBoxes mo_newPerson mo_newWidth mo_kept hDO mo_many mo_taken mo_length hXB hXC hXF hXY hXS hXP hFA hLE, cI G hFA 64 aFA_2, cI G hLE 4096 aLE]) [1, 2, 0] rfl
        replace hD := hD.sub (ws' := [cMO hMO mo_thrown mo_size hTM mo_isBoard mo_width mo_height mo_person mo_moves mo_pushes mo_floor mo_goals mo_boxes mo_newFloor mo_newGoals mo_newBoxes mo_newPerson mo_newWidth mo_kept hDO mo_many mo_taken mo_length hXB hXC hXF hXY hXS hXP hFA hLE, cI G hFA 64 aFA_2, cI G hLE 4096 aLE]) [1, 2, 0] rfl rfl
        refine lv_iconst (v := (1 : Int32)) X.1 X.2.1 dX6_bound_70 (by decide) ?_
        refine lv_iload_n X.1 X.2.1 dX6_bound_71 rfl (lv_at hl 1 rfl) ?_
        refine lv_ishl X.1 X.2.1 dX6_bound_72 ?_
        refine lv_iconst (v := (1 : Int32)) X.1 X.2.1 dX6_bound_73 (by decide) ?_
        refine lv_isub X.1 X.2.1 dX6_bound_74 ?_
        refine lv_topi (fun v3_3 e_v3_3 => ?_)
        replace h := h v3_3 e_v3_3
        refine lv_istore_n (lv' := [(3, .int v3_3), (0, .ref hMO), (1, .int v1), (2, .int v2)]) X.1 X.2.1 dX6_bound_75 rfl hl (by decide) rfl (fun ls hl => ?_)
        obtain ⟨n', h⟩ := h
        exact s_MO_bound_76 X (fun mo_thrown' aFA' aLE' v1' v2' H' locs' ls' h' hP' hD' hS' hl' => ih mo_thrown' aFA' aLE' v1' v2' H' locs' ls' h' hP' hD' hS' hl') n' mo_thrown aFA_2 aLE v1 v2 v3_3 _ _ _ h hP hD hS (lv_sub hl [1, 2, 3, 0] rfl)
      · replace h := Eq.mp (if_pos hc) h
        refine lv_goto (tgt := 201) X.1 X.2.1 dX6_bound_62 (by decide) ?_
        refine lv_iinc (v := (v2 + (1 : Int32))) (lv' := [(2, .int (v2 + (1 : Int32))), (0, .ref hMO), (1, .int v1)]) X.1 X.2.1 dX6_bound_201 hl (k := 2) rfl rfl (by decide) rfl (fun ls hl => ?_)
        refine lv_goto (tgt := 45) X.1 X.2.1 dX6_bound_204 (by decide) ?_
        exact ih mo_thrown aFA aLE v1 (v2 + (1 : Int32)) _ _ _ h hP hD hS (lv_sub hl [1, 2, 0] rfl)
set_option maxHeartbeats 4000000 in
set_option maxRecDepth 100000 in
theorem s_MO_bound_15 {p : Program} {l : Launch} {e : Env} {s : State} {m : MethodId} {args : Array Value} {below : List Frame} {meth : Method} {c : Code} {G : gEnv} {A : Nat → Prop} {hMO : Nat} {hTM : Nat} {hDO : Nat} {hXB : Nat} {hXC : Nat} {hXF : Nat} {hXY : Nat} {hXS : Nat} {hXP : Nat} {hFA : Nat} {hLE : Nat} {mo_size : Int32} {mo_isBoard : Int32} {mo_person : Int32} {mo_moves : Int32} {mo_pushes : Int32} {mo_newFloor : Int64} {mo_newGoals : Int64} {mo_newBoxes : Int64} {mo_newPerson : Int32} {mo_newWidth : Int32} {mo_kept : Int32} {mo_many : Int32} {mo_taken : Int32} {mo_length : Int32} {mo_width : Int32} {mo_height : Int32} {mo_floor : Int64} {mo_goals : Int64} {mo_boxes : Int64} {post : Int32 → Int32 → (Nat → Int32) → (Nat → Int32) → Prop} (X : gX p m meth c cX6_bound 7 RX6 (some .int) s args G A)  : ∀ (n : Nat) (mo_thrown : Int32) (aFA : (Nat → Int32)) (aLE : (Nat → Int32)) (v1 : Int32) (v2 : Int32) (H : Heap) (locs : List Loc) (ls : Array Slot), MO_bound_15 mo_width mo_height mo_floor mo_goals mo_boxes post n mo_thrown aFA aLE v1 v2 → va_P G.1 gCl [cMO hMO mo_thrown mo_size hTM mo_isBoard mo_width mo_height mo_person mo_moves mo_pushes mo_floor mo_goals mo_boxes mo_newFloor mo_newGoals mo_newBoxes mo_newPerson mo_newWidth mo_kept hDO mo_many mo_taken mo_length hXB hXC hXF hXY hXS hXP hFA hLE, cI G hFA 64 aFA, cI G hLE 4096 aLE] H → va_D A [cMO hMO mo_thrown mo_size hTM mo_isBoard mo_width mo_height mo_person mo_moves mo_pushes mo_floor mo_goals mo_boxes mo_newFloor mo_newGoals mo_newBoxes mo_newPerson mo_newWidth mo_kept hDO mo_many mo_taken mo_length hXB hXC hXF hXY hXS hXP hFA hLE, cI G hFA 64 aFA, cI G hLE 4096 aLE] → va_S A s.heap H locs → lv_has ls 7 [(0, .ref hMO), (1, .int v1), (2, .int v2)] → W p l e rm_MO_bound s m args below meth c H locs 0 0 (MQ below (gQi G (fun (r : Int32) (u : Int32 × (Nat → Int32) × (Nat → Int32)) => post r u.1 u.2.1 u.2.2) (fun (u : Int32 × (Nat → Int32) × (Nat → Int32)) => [cMO hMO u.1 mo_size hTM mo_isBoard mo_width mo_height mo_person mo_moves mo_pushes mo_floor mo_goals mo_boxes mo_newFloor mo_newGoals mo_newBoxes mo_newPerson mo_newWidth mo_kept hDO mo_many mo_taken mo_length hXB hXC hXF hXY hXS hXP hFA hLE, cI G hFA 64 u.2.1, cI G hLE 4096 u.2.2]) A) args s 0 0 A) (F0 m 15 ls []) := by
  intro n
  induction n with
  | zero => intro mo_thrown aFA aLE v1 v2 H locs ls h _ _ _ _; exact h.elim
  | succ n ih =>
    intro mo_thrown aFA aLE v1 v2 H locs ls h hP hD hS hl
    unfold MO_bound_15 at h
    refine lv_iload_n X.1 X.2.1 dX6_bound_15 rfl (lv_at hl 2 rfl) ?_
    refine lv_iconst (v := (1 : Int32)) X.1 X.2.1 dX6_bound_16 (by decide) ?_
    refine lv_iload_n X.1 X.2.1 dX6_bound_17 rfl (lv_at hl 1 rfl) ?_
    refine lv_ishl X.1 X.2.1 dX6_bound_18 ?_
    refine lv_icmp_ge (tgt := 43) X.1 X.2.1 dX6_bound_19 (by decide) (fun hc => ?_) (fun hc => ?_)
    · replace h := Eq.mp (if_pos hc) h
      refine lv_iconst (v := (0 : Int32)) X.1 X.2.1 dX6_bound_43 (by decide) ?_
      refine lv_istore_n (lv' := [(2, .int (0 : Int32)), (0, .ref hMO), (1, .int v1)]) X.1 X.2.1 dX6_bound_44 rfl hl (by decide) rfl (fun ls hl => ?_)
      obtain ⟨n', h⟩ := h
      exact s_MO_bound_45 X  n' mo_thrown aFA aLE v1 (0 : Int32) _ _ _ h hP hD hS (lv_sub hl [1, 2, 0] rfl)
    · replace h := Eq.mp (if_neg hc) h
      refine lv_aload_n X.1 X.2.1 dX6_bound_22 rfl (lv_at hl 0 rfl) ?_
      refine g_get X hP 0 6 29 (v := .ref hLE) rfl rfl inX6 (by decide) fl_X6_39 rfl dX6_bound_23 ?_
      refine lv_iload_n X.1 X.2.1 dX6_bound_26 rfl (lv_at hl 2 rfl) ?_
      refine lv_iload_n X.1 X.2.1 dX6_bound_27 rfl (lv_at hl 2 rfl) ?_
      refine lv_if_ne (tgt := 35) X.1 X.2.1 dX6_bound_28 (by decide) (fun hc => ?_) (fun hc => ?_)
      · replace h := Eq.mp (if_neg hc) h
        refine lv_iconst (v := (-1 : Int32)) X.1 X.2.1 dX6_bound_35 (by decide) ?_
        obtain ⟨hin, h⟩ := h
        refine g_ist X hP hD hS 2 rfl hin dX6_bound_36 (fun aLE_1 e_aLE_1 H locs hP hD hS => ?_)
        replace h := h aLE_1 e_aLE_1
        replace hP : va_P G.1 gCl [cMO hMO mo_thrown mo_size hTM mo_isBoard mo_width mo_height mo_person mo_moves mo_pushes mo_floor mo_goals mo_boxes mo_newFloor mo_newGoals mo_newBoxes mo_newPerson mo_newWidth mo_kept hDO mo_many mo_taken mo_length hXB hXC hXF hXY hXS hXP hFA hLE, cI G hFA 64 aFA, cI G hLE 4096 aLE_1] H := hP
        replace hD : va_D A [cMO hMO mo_thrown mo_size hTM mo_isBoard mo_width mo_height mo_person mo_moves mo_pushes mo_floor mo_goals mo_boxes mo_newFloor mo_newGoals mo_newBoxes mo_newPerson mo_newWidth mo_kept hDO mo_many mo_taken mo_length hXB hXC hXF hXY hXS hXP hFA hLE, cI G hFA 64 aFA, cI G hLE 4096 aLE_1] := hD
        refine lv_iinc (v := (v2 + (1 : Int32))) (lv' := [(2, .int (v2 + (1 : Int32))), (0, .ref hMO), (1, .int v1)]) X.1 X.2.1 dX6_bound_37 hl (k := 2) rfl rfl (by decide) rfl (fun ls hl => ?_)
        refine lv_goto (tgt := 15) X.1 X.2.1 dX6_bound_40 (by decide) ?_
        exact ih mo_thrown aFA aLE_1 v1 (v2 + (1 : Int32)) _ _ _ h hP hD hS (lv_sub hl [1, 2, 0] rfl)
      · replace h := Eq.mp (if_pos hc) h
        refine lv_iconst (v := (0 : Int32)) X.1 X.2.1 dX6_bound_31 (by decide) ?_
        refine lv_goto (tgt := 36) X.1 X.2.1 dX6_bound_32 (by decide) ?_
        obtain ⟨hin, h⟩ := h
        refine g_ist X hP hD hS 2 rfl hin dX6_bound_36 (fun aLE_2 e_aLE_2 H locs hP hD hS => ?_)
        replace h := h aLE_2 e_aLE_2
        replace hP : va_P G.1 gCl [cMO hMO mo_thrown mo_size hTM mo_isBoard mo_width mo_height mo_person mo_moves mo_pushes mo_floor mo_goals mo_boxes mo_newFloor mo_newGoals mo_newBoxes mo_newPerson mo_newWidth mo_kept hDO mo_many mo_taken mo_length hXB hXC hXF hXY hXS hXP hFA hLE, cI G hFA 64 aFA, cI G hLE 4096 aLE_2] H := hP
        replace hD : va_D A [cMO hMO mo_thrown mo_size hTM mo_isBoard mo_width mo_height mo_person mo_moves mo_pushes mo_floor mo_goals mo_boxes mo_newFloor mo_newGoals mo_newBoxes mo_newPerson mo_newWidth mo_kept hDO mo_many mo_taken mo_length hXB hXC hXF hXY hXS hXP hFA hLE, cI G hFA 64 aFA, cI G hLE 4096 aLE_2] := hD
        refine lv_iinc (v := (v2 + (1 : Int32))) (lv' := [(2, .int (v2 + (1 : Int32))), (0, .ref hMO), (1, .int v1)]) X.1 X.2.1 dX6_bound_37 hl (k := 2) rfl rfl (by decide) rfl (fun ls hl => ?_)
        refine lv_goto (tgt := 15) X.1 X.2.1 dX6_bound_40 (by decide) ?_
        exact ih mo_thrown aFA aLE_2 v1 (v2 + (1 : Int32)) _ _ _ h hP hD hS (lv_sub hl [1, 2, 0] rfl)
set_option maxHeartbeats 4000000 in
set_option maxRecDepth 100000 in
theorem c_MO_bound (l : Launch) (G : gEnv) (hMO : Nat) (hTM : Nat) (hDO : Nat) (hXB : Nat) (hXC : Nat) (hXF : Nat) (hXY : Nat) (hXS : Nat) (hXP : Nat) (hFA : Nat) (hLE : Nat) (mo_thrown : Int32) (mo_size : Int32) (mo_isBoard : Int32) (mo_width : Int32) (mo_height : Int32) (mo_person : Int32) (mo_moves : Int32) (mo_pushes : Int32) (mo_floor : Int64) (mo_goals : Int64) (mo_boxes : Int64) (mo_newFloor : Int64) (mo_newGoals : Int64) (mo_newBoxes : Int64) (mo_newPerson : Int32) (mo_newWidth : Int32) (mo_kept : Int32) (mo_many : Int32) (mo_taken : Int32) (mo_length : Int32) (aFA : Nat → Int32) (aLE : Nat → Int32) (post : Int32 → Int32 → (Nat → Int32) → (Nat → Int32) → Prop) (h : MO_bound mo_width mo_height mo_floor mo_goals mo_boxes mo_thrown aFA aLE post) (sz : Nat) : Met l yX6_bound (Cond.code yX6_bound cX6_bound 7 (some .int) :: wAll) (rm_MO_bound) (gPc G [.ref hMO] [cMO hMO mo_thrown mo_size hTM mo_isBoard mo_width mo_height mo_person mo_moves mo_pushes mo_floor mo_goals mo_boxes mo_newFloor mo_newGoals mo_newBoxes mo_newPerson mo_newWidth mo_kept hDO mo_many mo_taken mo_length hXB hXC hXF hXY hXS hXP hFA hLE, cI G hFA 64 aFA, cI G hLE 4096 aLE] sz) (gQi G (fun (r : Int32) (u : Int32 × (Nat → Int32) × (Nat → Int32)) => post r u.1 u.2.1 u.2.2) (fun (u : Int32 × (Nat → Int32) × (Nat → Int32)) => [cMO hMO u.1 mo_size hTM mo_isBoard mo_width mo_height mo_person mo_moves mo_pushes mo_floor mo_goals mo_boxes mo_newFloor mo_newGoals mo_newBoxes mo_newPerson mo_newWidth mo_kept hDO mo_many mo_taken mo_length hXB hXC hXF hXY hXS hXP hFA hLE, cI G hFA 64 u.2.1, cI G hLE 4096 u.2.2]) (va_A [cMO hMO mo_thrown mo_size hTM mo_isBoard mo_width mo_height mo_person mo_moves mo_pushes mo_floor mo_goals mo_boxes mo_newFloor mo_newGoals mo_newBoxes mo_newPerson mo_newWidth mo_kept hDO mo_many mo_taken mo_length hXB hXC hXF hXY hXS hXP hFA hLE, cI G hFA 64 aFA, cI G hLE 4096 aLE] sz)) 0 0 (va_A [cMO hMO mo_thrown mo_size hTM mo_isBoard mo_width mo_height mo_person mo_moves mo_pushes mo_floor mo_goals mo_boxes mo_newFloor mo_newGoals mo_newBoxes mo_newPerson mo_newWidth mo_kept hDO mo_many mo_taken mo_length hXB hXC hXF hXY hXS hXP hFA hLE, cI G hFA 64 aFA, cI G hLE 4096 aLE] sz) := by
  refine Met.ofW (cc := cX6_bound) (maxL := 7) (ret := (some .int)) (by decide) rfl ?_
  intro p e s m args below meth c s₁ B hml hv
  obtain ⟨rfl, hsz, hP, hK, hD0⟩ := hv
  subst hsz
  have X := gX.ofB (ws := [cMO hMO mo_thrown mo_size hTM mo_isBoard mo_width mo_height mo_person mo_moves mo_pushes mo_floor mo_goals mo_boxes mo_newFloor mo_newGoals mo_newBoxes mo_newPerson mo_newWidth mo_kept hDO mo_many mo_taken mo_length hXB hXC hXF hXY hXS hXP hFA hLE, cI G hFA 64 aFA, cI G hLE 4096 aLE]) B hml hK hD0
  have hD := hD0.self (sz := s.heap.size)
  generalize hAe : va_A [cMO hMO mo_thrown mo_size hTM mo_isBoard mo_width mo_height mo_person mo_moves mo_pushes mo_floor mo_goals mo_boxes mo_newFloor mo_newGoals mo_newBoxes mo_newPerson mo_newWidth mo_kept hDO mo_many mo_taken mo_length hXB hXC hXF hXY hXS hXP hFA hLE, cI G hFA 64 aFA, cI G hLE 4096 aLE] s.heap.size = A at X hD ⊢
  have hS : va_S A s.heap s.heap [] := va_S.rf
  have hl := lv_entry ([.ref hMO]) (n := 7) (Nat.le_of_ble_eq_true rfl)
  rw [lg_entry_eq]
  generalize (lg_sl ([.ref hMO]) ++ List.replicate (7 - (lg_sl ([.ref hMO])).length) Slot.unset).toArray = ls at hl ⊢
  have hl : lv_has ls 7 [(0, .ref hMO)] := hl
  dsimp only [headSpec]
  unfold MO_bound at h
  refine lv_aload_n X.1 X.2.1 dX6_bound_0 rfl (lv_at hl 0 rfl) ?_
  refine lv_iconst (v := (0 : Int32)) X.1 X.2.1 dX6_bound_1 (by decide) ?_
  refine g_put X hP hD hS 0 6 0 (v := .int (0 : Int32)) rfl rfl inX6 tyX6 tyX6_ok nmX6 (by decide) fl_X6_42 rfl rfl rfl rfl (Nat.le_of_ble_eq_true rfl) dX6_bound_2 (fun H locs hP hD hS => ?_)
  replace hP : va_P G.1 gCl [cMO hMO (0 : Int32) mo_size hTM mo_isBoard mo_width mo_height mo_person mo_moves mo_pushes mo_floor mo_goals mo_boxes mo_newFloor mo_newGoals mo_newBoxes mo_newPerson mo_newWidth mo_kept hDO mo_many mo_taken mo_length hXB hXC hXF hXY hXS hXP hFA hLE, cI G hFA 64 aFA, cI G hLE 4096 aLE] H := hP
  replace hD : va_D A [cMO hMO (0 : Int32) mo_size hTM mo_isBoard mo_width mo_height mo_person mo_moves mo_pushes mo_floor mo_goals mo_boxes mo_newFloor mo_newGoals mo_newBoxes mo_newPerson mo_newWidth mo_kept hDO mo_many mo_taken mo_length hXB hXC hXF hXY hXS hXP hFA hLE, cI G hFA 64 aFA, cI G hLE 4096 aLE] := hD
  refine lv_aload_n X.1 X.2.1 dX6_bound_5 rfl (lv_at hl 0 rfl) ?_
  refine g_get X hP 0 6 10 (v := .long mo_goals) rfl rfl inX6 (by decide) fl_X6_94 rfl dX6_bound_6 ?_
  refine g_ci (wr := [cMO hMO (0 : Int32) mo_size hTM mo_isBoard mo_width mo_height mo_person mo_moves mo_pushes mo_floor mo_goals mo_boxes mo_newFloor mo_newGoals mo_newBoxes mo_newPerson mo_newWidth mo_kept hDO mo_many mo_taken mo_length hXB hXC hXF hXY hXS hXP hFA hLE, cI G hFA 64 aFA, cI G hLE 4096 aLE]) X [] [0, 1, 2] (g_rS (As := [.long mo_goals]) (rest := []) X (c_MO_countOf l G mo_goals _ h _) lk_X6_75 rfl rfl ⟨Nat.le_of_ble_eq_true rfl, Nat.le_of_ble_eq_true rfl⟩ hP hD hS [] rfl rfl rfl hl.1 rfl (Nat.le_of_ble_eq_true rfl) dX6_bound_9 ⟨Nat.le_of_ble_eq_true rfl, Nat.le_of_ble_eq_true rfl⟩) hP hD hS rfl rfl rfl (by decide) (fun r_1 u H locs h hP hD hS => ?_)
  try dsimp only at h
  replace hP := hP.sub (ws' := [cMO hMO (0 : Int32) mo_size hTM mo_isBoard mo_width mo_height mo_person mo_moves mo_pushes mo_floor mo_goals mo_boxes mo_newFloor mo_newGoals mo_newBoxes mo_newPerson mo_newWidth mo_kept hDO mo_many mo_taken mo_length hXB hXC hXF hXY hXS hXP hFA hLE, cI G hFA 64 aFA, cI G hLE 4096 aLE]) [0, 1, 2] rfl
  replace hD := hD.sub (ws' := [cMO hMO (0 : Int32) mo_size hTM mo_isBoard mo_width mo_height mo_person mo_moves mo_pushes mo_floor mo_goals mo_boxes mo_newFloor mo_newGoals mo_newBoxes mo_newPerson mo_newWidth mo_kept hDO mo_many mo_taken mo_length hXB hXC hXF hXY hXS hXP hFA hLE, cI G hFA 64 aFA, cI G hLE 4096 aLE]) [0, 1, 2] rfl rfl
  refine lv_istore_n (lv' := [(1, .int r_1), (0, .ref hMO)]) X.1 X.2.1 dX6_bound_12 rfl hl (by decide) rfl (fun ls hl => ?_)
  refine lv_iconst (v := (0 : Int32)) X.1 X.2.1 dX6_bound_13 (by decide) ?_
  refine lv_istore_n (lv' := [(2, .int (0 : Int32)), (1, .int r_1), (0, .ref hMO)]) X.1 X.2.1 dX6_bound_14 rfl hl (by decide) rfl (fun ls hl => ?_)
  obtain ⟨n', h⟩ := h
  exact s_MO_bound_15 X  n' (0 : Int32) aFA aLE r_1 (0 : Int32) _ _ _ h hP hD hS (lv_sub hl [2, 1, 0] rfl)
abbrev rm_MO_leastOf : Room := { frames := 0, cells := 0, slots := 0, locals := 0 }
set_option maxHeartbeats 4000000 in
set_option maxRecDepth 100000 in
theorem s_MO_leastOf_2 {p : Program} {l : Launch} {e : Env} {s : State} {m : MethodId} {args : Array Value} {below : List Frame} {meth : Method} {c : Code} {G : gEnv} {A : Nat → Prop} {post : Int32 → Prop} (X : gX p m meth c cX6_leastOf 3 RX6 (some .int) s args G A)  : ∀ (n : Nat) (v0 : Int64) (v2 : Int32) (H : Heap) (locs : List Loc) (ls : Array Slot), MO_leastOf_2 post n v0 v2 → va_P G.1 gCl [] H → va_D A [] → va_S A s.heap H locs → lv_has ls 3 [(0, .long v0), (2, .int v2)] → W p l e rm_MO_leastOf s m args below meth c H locs 0 0 (MQ below (gQi G (fun (r : Int32) (u : Unit) => post r ) (fun (u : Unit) => []) A) args s 0 0 A) (F0 m 2 ls []) := by
  intro n
  induction n with
  | zero => intro v0 v2 H locs ls h _ _ _ _; exact h.elim
  | succ n ih =>
    intro v0 v2 H locs ls h hP hD hS hl
    unfold MO_leastOf_2 at h
    refine lv_lload_n X.1 X.2.1 dX6_leastOf_2 rfl (lv_at hl 0 rfl) ?_
    refine lv_iload_n X.1 X.2.1 dX6_leastOf_3 rfl (lv_at hl 1 rfl) ?_
    refine lv_lshr X.1 X.2.1 dX6_leastOf_4 rfl ?_
    refine lv_lconst (v := (1 : Int64)) X.1 X.2.1 dX6_leastOf_5 (by decide) ?_
    refine lv_land X.1 X.2.1 dX6_leastOf_6 ?_
    refine lv_lconst (v := (0 : Int64)) X.1 X.2.1 dX6_leastOf_7 (by decide) ?_
    refine g_lcmp_ne (tgt := 18) X dX6_leastOf_8 dX6_leastOf_9 (by decide) (fun hc => ?_) (fun hc => ?_)
    · replace h := Eq.mp (if_neg hc) h
      refine lv_iload_n X.1 X.2.1 dX6_leastOf_18 rfl (lv_at hl 1 rfl) ?_
      exact g_iret X () h hP hD hS dX6_leastOf_19
    · replace h := Eq.mp (if_pos hc) h
      refine lv_iinc (v := (v2 + (1 : Int32))) (lv' := [(2, .int (v2 + (1 : Int32))), (0, .long v0)]) X.1 X.2.1 dX6_leastOf_12 hl (k := 1) rfl rfl (by decide) rfl (fun ls hl => ?_)
      refine lv_goto (tgt := 2) X.1 X.2.1 dX6_leastOf_15 (by decide) ?_
      exact ih v0 (v2 + (1 : Int32)) _ _ _ h hP hD hS (lv_sub hl [1, 0] rfl)
set_option maxHeartbeats 4000000 in
set_option maxRecDepth 100000 in
theorem c_MO_leastOf (l : Launch) (G : gEnv) (v0 : Int64) (post : Int32 → Prop) (h : MO_leastOf v0 post) (sz : Nat) : Met l yX6_leastOf (Cond.code yX6_leastOf cX6_leastOf 3 (some .int) :: wAll) (rm_MO_leastOf) (gPc G [.long v0] [] sz) (gQi G (fun (r : Int32) (u : Unit) => post r ) (fun (u : Unit) => []) (va_A [] sz)) 0 0 (va_A [] sz) := by
  refine Met.ofW (cc := cX6_leastOf) (maxL := 3) (ret := (some .int)) (by decide) rfl ?_
  intro p e s m args below meth c s₁ B hml hv
  obtain ⟨rfl, hsz, hP, hK, hD0⟩ := hv
  subst hsz
  have X := gX.ofB (ws := []) B hml hK hD0
  have hD := hD0.self (sz := s.heap.size)
  generalize hAe : va_A [] s.heap.size = A at X hD ⊢
  have hS : va_S A s.heap s.heap [] := va_S.rf
  have hl := lv_entry ([.long v0]) (n := 3) (Nat.le_of_ble_eq_true rfl)
  rw [lg_entry_eq]
  generalize (lg_sl ([.long v0]) ++ List.replicate (3 - (lg_sl ([.long v0])).length) Slot.unset).toArray = ls at hl ⊢
  have hl : lv_has ls 3 [(0, .long v0)] := hl
  dsimp only [headSpec]
  unfold MO_leastOf at h
  refine lv_iconst (v := (0 : Int32)) X.1 X.2.1 dX6_leastOf_0 (by decide) ?_
  refine lv_istore_n (lv' := [(2, .int (0 : Int32)), (0, .long v0)]) X.1 X.2.1 dX6_leastOf_1 rfl hl (by decide) rfl (fun ls hl => ?_)
  obtain ⟨n', h⟩ := h
  exact s_MO_leastOf_2 X  n' v0 (0 : Int32) _ _ _ h hP hD hS (lv_sub hl [1, 0] rfl)
abbrev rm_MO_seatOf : Room := { frames := 0, cells := 0, slots := 0, locals := 0 }
set_option maxHeartbeats 4000000 in
set_option maxRecDepth 100000 in
theorem s_MO_seatOf_78 {p : Program} {l : Launch} {e : Env} {s : State} {m : MethodId} {args : Array Value} {below : List Frame} {meth : Method} {c : Code} {G : gEnv} {A : Nat → Prop} {hMO : Nat} {hTM : Nat} {hDO : Nat} {hXB : Nat} {hXC : Nat} {hXF : Nat} {hXY : Nat} {hXS : Nat} {hXP : Nat} {hFA : Nat} {hLE : Nat} {mo_thrown : Int32} {mo_size : Int32} {mo_isBoard : Int32} {mo_width : Int32} {mo_height : Int32} {mo_person : Int32} {mo_moves : Int32} {mo_pushes : Int32} {mo_floor : Int64} {mo_goals : Int64} {mo_boxes : Int64} {mo_newFloor : Int64} {mo_newGoals : Int64} {mo_newBoxes : Int64} {mo_newPerson : Int32} {mo_newWidth : Int32} {mo_kept : Int32} {mo_many : Int32} {mo_taken : Int32} {mo_length : Int32} {aXB : Nat → Int64} {aXC : Nat → Int32} {aXS : Nat → Int32} {k35 : Int64 → Int32 → Int32 → Prop} {post : Int32 → Prop} (X : gX p m meth c cX6_seatOf 7 RX6 (some .int) s args G A) (hk35 : ∀ (v1' : Int64) (v3' : Int32) (v6' : Int32) (H : Heap) (locs : List Loc) (ls : Array Slot), k35 v1' v3' v6' → va_P G.1 gCl [cMO hMO mo_thrown mo_size hTM mo_isBoard mo_width mo_height mo_person mo_moves mo_pushes mo_floor mo_goals mo_boxes mo_newFloor mo_newGoals mo_newBoxes mo_newPerson mo_newWidth mo_kept hDO mo_many mo_taken mo_length hXB hXC hXF hXY hXS hXP hFA hLE, cJ G hXB 10001 aXB, cI G hXC 10001 aXC, cI G hXS 32768 aXS] H → va_D A [cMO hMO mo_thrown mo_size hTM mo_isBoard mo_width mo_height mo_person mo_moves mo_pushes mo_floor mo_goals mo_boxes mo_newFloor mo_newGoals mo_newBoxes mo_newPerson mo_newWidth mo_kept hDO mo_many mo_taken mo_length hXB hXC hXF hXY hXS hXP hFA hLE, cJ G hXB 10001 aXB, cI G hXC 10001 aXC, cI G hXS 32768 aXS] → va_S A s.heap H locs → lv_has ls 7 [(0, .ref hMO), (1, .long v1'), (3, .int v3'), (6, .int v6')] → W p l e rm_MO_seatOf s m args below meth c H locs 0 0 (MQ below (gQi G (fun (r : Int32) (u : Unit) => post r ) (fun (u : Unit) => [cMO hMO mo_thrown mo_size hTM mo_isBoard mo_width mo_height mo_person mo_moves mo_pushes mo_floor mo_goals mo_boxes mo_newFloor mo_newGoals mo_newBoxes mo_newPerson mo_newWidth mo_kept hDO mo_many mo_taken mo_length hXB hXC hXF hXY hXS hXP hFA hLE, cJ G hXB 10001 aXB, cI G hXC 10001 aXC, cI G hXS 32768 aXS]) A) args s 0 0 A) (F0 m 35 ls [])) : ∀ (v1 : Int64) (v3 : Int32) (v6 : Int32) (H : Heap) (locs : List Loc) (ls : Array Slot), MO_seatOf_78 aXB aXC aXS k35 post v1 v3 v6 → va_P G.1 gCl [cMO hMO mo_thrown mo_size hTM mo_isBoard mo_width mo_height mo_person mo_moves mo_pushes mo_floor mo_goals mo_boxes mo_newFloor mo_newGoals mo_newBoxes mo_newPerson mo_newWidth mo_kept hDO mo_many mo_taken mo_length hXB hXC hXF hXY hXS hXP hFA hLE, cJ G hXB 10001 aXB, cI G hXC 10001 aXC, cI G hXS 32768 aXS] H → va_D A [cMO hMO mo_thrown mo_size hTM mo_isBoard mo_width mo_height mo_person mo_moves mo_pushes mo_floor mo_goals mo_boxes mo_newFloor mo_newGoals mo_newBoxes mo_newPerson mo_newWidth mo_kept hDO mo_many mo_taken mo_length hXB hXC hXF hXY hXS hXP hFA hLE, cJ G hXB 10001 aXB, cI G hXC 10001 aXC, cI G hXS 32768 aXS] → va_S A s.heap H locs → lv_has ls 7 [(0, .ref hMO), (1, .long v1), (3, .int v3), (6, .int v6)] → W p l e rm_MO_seatOf s m args below meth c H locs 0 0 (MQ below (gQi G (fun (r : Int32) (u : Unit) => post r ) (fun (u : Unit) => [cMO hMO mo_thrown mo_size hTM mo_isBoard mo_width mo_height mo_person mo_moves mo_pushes mo_floor mo_goals mo_boxes mo_newFloor mo_newGoals mo_newBoxes mo_newPerson mo_newWidth mo_kept hDO mo_many mo_taken mo_length hXB hXC hXF hXY hXS hXP hFA hLE, cJ G hXB 10001 aXB, cI G hXC 10001 aXC, cI G hXS 32768 aXS]) A) args s 0 0 A) (F0 m 78 ls []) := by
  intro v1 v3 v6 H locs ls h hP hD hS hl
  unfold MO_seatOf_78 at h
  refine lv_iload X.1 X.2.1 dX6_seatOf_78 (lv_at hl 3 rfl) ?_
  refine lv_iconst (v := (1 : Int32)) X.1 X.2.1 dX6_seatOf_80 (by decide) ?_
  refine lv_iadd X.1 X.2.1 dX6_seatOf_81 ?_
  refine lv_ldc (v := (32768 : Int32)) X.1 X.2.1 X.2.2.2.1 (X.2.2.2.2.1 _ cn_X6_29) dX6_seatOf_82 ?_
  refine lv_irem X.1 X.2.1 dX6_seatOf_84 (by decide) ?_
  refine lv_topi (fun v6_1 e_v6_1 => ?_)
  replace h := h v6_1 e_v6_1
  refine lv_istore (lv' := [(6, .int v6_1), (0, .ref hMO), (1, .long v1), (3, .int v3)]) X.1 X.2.1 dX6_seatOf_85 hl (by decide) rfl (fun ls hl => ?_)
  refine lv_goto (tgt := 35) X.1 X.2.1 dX6_seatOf_87 (by decide) ?_
  exact hk35 v1 v3 v6_1 _ _ _ h hP hD hS (lv_sub hl [1, 2, 3, 0] rfl)
set_option maxHeartbeats 4000000 in
set_option maxRecDepth 100000 in
theorem s_MO_seatOf_35 {p : Program} {l : Launch} {e : Env} {s : State} {m : MethodId} {args : Array Value} {below : List Frame} {meth : Method} {c : Code} {G : gEnv} {A : Nat → Prop} {hMO : Nat} {hTM : Nat} {hDO : Nat} {hXB : Nat} {hXC : Nat} {hXF : Nat} {hXY : Nat} {hXS : Nat} {hXP : Nat} {hFA : Nat} {hLE : Nat} {mo_thrown : Int32} {mo_size : Int32} {mo_isBoard : Int32} {mo_width : Int32} {mo_height : Int32} {mo_person : Int32} {mo_moves : Int32} {mo_pushes : Int32} {mo_floor : Int64} {mo_goals : Int64} {mo_boxes : Int64} {mo_newFloor : Int64} {mo_newGoals : Int64} {mo_newBoxes : Int64} {mo_newPerson : Int32} {mo_newWidth : Int32} {mo_kept : Int32} {mo_many : Int32} {mo_taken : Int32} {mo_length : Int32} {aXB : Nat → Int64} {aXC : Nat → Int32} {aXS : Nat → Int32} {post : Int32 → Prop} (X : gX p m meth c cX6_seatOf 7 RX6 (some .int) s args G A)  : ∀ (n : Nat) (v1 : Int64) (v3 : Int32) (v6 : Int32) (H : Heap) (locs : List Loc) (ls : Array Slot), MO_seatOf_35 aXB aXC aXS post n v1 v3 v6 → va_P G.1 gCl [cMO hMO mo_thrown mo_size hTM mo_isBoard mo_width mo_height mo_person mo_moves mo_pushes mo_floor mo_goals mo_boxes mo_newFloor mo_newGoals mo_newBoxes mo_newPerson mo_newWidth mo_kept hDO mo_many mo_taken mo_length hXB hXC hXF hXY hXS hXP hFA hLE, cJ G hXB 10001 aXB, cI G hXC 10001 aXC, cI G hXS 32768 aXS] H → va_D A [cMO hMO mo_thrown mo_size hTM mo_isBoard mo_width mo_height mo_person mo_moves mo_pushes mo_floor mo_goals mo_boxes mo_newFloor mo_newGoals mo_newBoxes mo_newPerson mo_newWidth mo_kept hDO mo_many mo_taken mo_length hXB hXC hXF hXY hXS hXP hFA hLE, cJ G hXB 10001 aXB, cI G hXC 10001 aXC, cI G hXS 32768 aXS] → va_S A s.heap H locs → lv_has ls 7 [(0, .ref hMO), (1, .long v1), (3, .int v3), (6, .int v6)] → W p l e rm_MO_seatOf s m args below meth c H locs 0 0 (MQ below (gQi G (fun (r : Int32) (u : Unit) => post r ) (fun (u : Unit) => [cMO hMO mo_thrown mo_size hTM mo_isBoard mo_width mo_height mo_person mo_moves mo_pushes mo_floor mo_goals mo_boxes mo_newFloor mo_newGoals mo_newBoxes mo_newPerson mo_newWidth mo_kept hDO mo_many mo_taken mo_length hXB hXC hXF hXY hXS hXP hFA hLE, cJ G hXB 10001 aXB, cI G hXC 10001 aXC, cI G hXS 32768 aXS]) A) args s 0 0 A) (F0 m 35 ls []) := by
  intro n
  induction n with
  | zero => intro v1 v3 v6 H locs ls h _ _ _ _; exact h.elim
  | succ n ih =>
    intro v1 v3 v6 H locs ls h hP hD hS hl
    unfold MO_seatOf_35 at h
    refine lv_aload_n X.1 X.2.1 dX6_seatOf_35 rfl (lv_at hl 0 rfl) ?_
    refine g_get X hP 0 6 26 (v := .ref hXS) rfl rfl inX6 (by decide) fl_X6_30 rfl dX6_seatOf_36 ?_
    refine lv_iload X.1 X.2.1 dX6_seatOf_39 (lv_at hl 3 rfl) ?_
    obtain ⟨hin, h⟩ := h
    refine va_iald (D := G.1) X.1 X.2.1 X.k.1 hP 3 0 rfl rfl hin dX6_seatOf_41 ?_
    refine lv_if_lt (tgt := 90) X.1 X.2.1 dX6_seatOf_42 (by decide) (fun hc => ?_) (fun hc => ?_)
    · replace h := Eq.mp (if_pos hc) h
      refine lv_iload X.1 X.2.1 dX6_seatOf_90 (lv_at hl 3 rfl) ?_
      exact g_iret X () h hP hD hS dX6_seatOf_92
    · replace h := Eq.mp (if_neg hc) h
      refine lv_aload_n X.1 X.2.1 dX6_seatOf_45 rfl (lv_at hl 0 rfl) ?_
      refine g_get X hP 0 6 22 (v := .ref hXB) rfl rfl inX6 (by decide) fl_X6_16 rfl dX6_seatOf_46 ?_
      refine lv_aload_n X.1 X.2.1 dX6_seatOf_49 rfl (lv_at hl 0 rfl) ?_
      refine g_get X hP 0 6 26 (v := .ref hXS) rfl rfl inX6 (by decide) fl_X6_30 rfl dX6_seatOf_50 ?_
      refine lv_iload X.1 X.2.1 dX6_seatOf_53 (lv_at hl 3 rfl) ?_
      obtain ⟨hin, h⟩ := h
      refine va_iald (D := G.1) X.1 X.2.1 X.k.1 hP 3 0 rfl rfl hin dX6_seatOf_55 ?_
      obtain ⟨hin, h⟩ := h
      refine va_lald (D := G.1) X.1 X.2.1 X.k.1 hP 1 1 rfl rfl hin dX6_seatOf_56 ?_
      refine lv_lload_n X.1 X.2.1 dX6_seatOf_57 rfl (lv_at hl 1 rfl) ?_
      refine g_lcmp_ne (tgt := 78) X dX6_seatOf_58 dX6_seatOf_59 (by decide) (fun hc => ?_) (fun hc => ?_)
      · replace h := Eq.mp (if_neg hc) h
        exact s_MO_seatOf_78 X (fun v1' v3' v6' H' locs' ls' h' hP' hD' hS' hl' => ih v1' v3' v6' H' locs' ls' h' hP' hD' hS' hl') v1 v3 v6 _ _ _ h hP hD hS (lv_sub hl [0, 1, 2, 3] rfl)
      · replace h := Eq.mp (if_pos hc) h
        refine lv_aload_n X.1 X.2.1 dX6_seatOf_62 rfl (lv_at hl 0 rfl) ?_
        refine g_get X hP 0 6 23 (v := .ref hXC) rfl rfl inX6 (by decide) fl_X6_20 rfl dX6_seatOf_63 ?_
        refine lv_aload_n X.1 X.2.1 dX6_seatOf_66 rfl (lv_at hl 0 rfl) ?_
        refine g_get X hP 0 6 26 (v := .ref hXS) rfl rfl inX6 (by decide) fl_X6_30 rfl dX6_seatOf_67 ?_
        refine lv_iload X.1 X.2.1 dX6_seatOf_70 (lv_at hl 3 rfl) ?_
        obtain ⟨hin, h⟩ := h
        refine va_iald (D := G.1) X.1 X.2.1 X.k.1 hP 3 0 rfl rfl hin dX6_seatOf_72 ?_
        obtain ⟨hin, h⟩ := h
        refine va_iald (D := G.1) X.1 X.2.1 X.k.1 hP 2 0 rfl rfl hin dX6_seatOf_73 ?_
        refine lv_iload_n X.1 X.2.1 dX6_seatOf_74 rfl (lv_at hl 2 rfl) ?_
        refine lv_icmp_eq (tgt := 90) X.1 X.2.1 dX6_seatOf_75 (by decide) (fun hc => ?_) (fun hc => ?_)
        · replace h := Eq.mp (if_pos hc) h
          refine lv_iload X.1 X.2.1 dX6_seatOf_90 (lv_at hl 3 rfl) ?_
          exact g_iret X () h hP hD hS dX6_seatOf_92
        · replace h := Eq.mp (if_neg hc) h
          exact s_MO_seatOf_78 X (fun v1' v3' v6' H' locs' ls' h' hP' hD' hS' hl' => ih v1' v3' v6' H' locs' ls' h' hP' hD' hS' hl') v1 v3 v6 _ _ _ h hP hD hS (lv_sub hl [0, 1, 2, 3] rfl)
set_option maxHeartbeats 4000000 in
set_option maxRecDepth 100000 in
theorem c_MO_seatOf (l : Launch) (G : gEnv) (hMO : Nat) (hTM : Nat) (hDO : Nat) (hXB : Nat) (hXC : Nat) (hXF : Nat) (hXY : Nat) (hXS : Nat) (hXP : Nat) (hFA : Nat) (hLE : Nat) (mo_thrown : Int32) (mo_size : Int32) (mo_isBoard : Int32) (mo_width : Int32) (mo_height : Int32) (mo_person : Int32) (mo_moves : Int32) (mo_pushes : Int32) (mo_floor : Int64) (mo_goals : Int64) (mo_boxes : Int64) (mo_newFloor : Int64) (mo_newGoals : Int64) (mo_newBoxes : Int64) (mo_newPerson : Int32) (mo_newWidth : Int32) (mo_kept : Int32) (mo_many : Int32) (mo_taken : Int32) (mo_length : Int32) (aXB : Nat → Int64) (aXC : Nat → Int32) (aXS : Nat → Int32) (v1 : Int64) (v3 : Int32) (post : Int32 → Prop) (h : MO_seatOf aXB aXC aXS v1 v3 post) (sz : Nat) : Met l yX6_seatOf (Cond.code yX6_seatOf cX6_seatOf 7 (some .int) :: wAll) (rm_MO_seatOf) (gPc G [.ref hMO, .long v1, .int v3] [cMO hMO mo_thrown mo_size hTM mo_isBoard mo_width mo_height mo_person mo_moves mo_pushes mo_floor mo_goals mo_boxes mo_newFloor mo_newGoals mo_newBoxes mo_newPerson mo_newWidth mo_kept hDO mo_many mo_taken mo_length hXB hXC hXF hXY hXS hXP hFA hLE, cJ G hXB 10001 aXB, cI G hXC 10001 aXC, cI G hXS 32768 aXS] sz) (gQi G (fun (r : Int32) (u : Unit) => post r ) (fun (u : Unit) => [cMO hMO mo_thrown mo_size hTM mo_isBoard mo_width mo_height mo_person mo_moves mo_pushes mo_floor mo_goals mo_boxes mo_newFloor mo_newGoals mo_newBoxes mo_newPerson mo_newWidth mo_kept hDO mo_many mo_taken mo_length hXB hXC hXF hXY hXS hXP hFA hLE, cJ G hXB 10001 aXB, cI G hXC 10001 aXC, cI G hXS 32768 aXS]) (va_A [cMO hMO mo_thrown mo_size hTM mo_isBoard mo_width mo_height mo_person mo_moves mo_pushes mo_floor mo_goals mo_boxes mo_newFloor mo_newGoals mo_newBoxes mo_newPerson mo_newWidth mo_kept hDO mo_many mo_taken mo_length hXB hXC hXF hXY hXS hXP hFA hLE, cJ G hXB 10001 aXB, cI G hXC 10001 aXC, cI G hXS 32768 aXS] sz)) 0 0 (va_A [cMO hMO mo_thrown mo_size hTM mo_isBoard mo_width mo_height mo_person mo_moves mo_pushes mo_floor mo_goals mo_boxes mo_newFloor mo_newGoals mo_newBoxes mo_newPerson mo_newWidth mo_kept hDO mo_many mo_taken mo_length hXB hXC hXF hXY hXS hXP hFA hLE, cJ G hXB 10001 aXB, cI G hXC 10001 aXC, cI G hXS 32768 aXS] sz) := by
  refine Met.ofW (cc := cX6_seatOf) (maxL := 7) (ret := (some .int)) (by decide) rfl ?_
  intro p e s m args below meth c s₁ B hml hv
  obtain ⟨rfl, hsz, hP, hK, hD0⟩ := hv
  subst hsz
  have X := gX.ofB (ws := [cMO hMO mo_thrown mo_size hTM mo_isBoard mo_width mo_height mo_person mo_moves mo_pushes mo_floor mo_goals mo_boxes mo_newFloor mo_newGoals mo_newBoxes mo_newPerson mo_newWidth mo_kept hDO mo_many mo_taken mo_length hXB hXC hXF hXY hXS hXP hFA hLE, cJ G hXB 10001 aXB, cI G hXC 10001 aXC, cI G hXS 32768 aXS]) B hml hK hD0
  have hD := hD0.self (sz := s.heap.size)
  generalize hAe : va_A [cMO hMO mo_thrown mo_size hTM mo_isBoard mo_width mo_height mo_person mo_moves mo_pushes mo_floor mo_goals mo_boxes mo_newFloor mo_newGoals mo_newBoxes mo_newPerson mo_newWidth mo_kept hDO mo_many mo_taken mo_length hXB hXC hXF hXY hXS hXP hFA hLE, cJ G hXB 10001 aXB, cI G hXC 10001 aXC, cI G hXS 32768 aXS] s.heap.size = A at X hD ⊢
  have hS : va_S A s.heap s.heap [] := va_S.rf
  have hl := lv_entry ([.ref hMO, .long v1, .int v3]) (n := 7) (Nat.le_of_ble_eq_true rfl)
  rw [lg_entry_eq]
  generalize (lg_sl ([.ref hMO, .long v1, .int v3]) ++ List.replicate (7 - (lg_sl ([.ref hMO, .long v1, .int v3])).length) Slot.unset).toArray = ls at hl ⊢
  have hl : lv_has ls 7 [(0, .ref hMO), (1, .long v1), (3, .int v3)] := hl
  dsimp only [headSpec]
  unfold MO_seatOf at h
  refine lv_lload_n X.1 X.2.1 dX6_seatOf_0 rfl (lv_at hl 1 rfl) ?_
  refine lv_ldc2 (v := (31 : Int64)) X.1 X.2.1 X.2.2.2.1 (X.2.2.2.2.1 _ cn_X6_162) dX6_seatOf_1 ?_
  refine lv_lmul X.1 X.2.1 dX6_seatOf_4 ?_
  refine lv_iload_n X.1 X.2.1 dX6_seatOf_5 rfl (lv_at hl 2 rfl) ?_
  refine lv_i2l (v := v3.toInt64) X.1 X.2.1 dX6_seatOf_6 rfl ?_
  refine lv_ladd X.1 X.2.1 dX6_seatOf_7 ?_
  refine lv_topl (fun v4_1 e_v4_1 => ?_)
  replace h := h v4_1 e_v4_1
  refine lv_lstore (lv' := [(4, .long v4_1), (0, .ref hMO), (1, .long v1), (3, .int v3)]) X.1 X.2.1 dX6_seatOf_8 hl (by decide) rfl (fun ls hl => ?_)
  refine lv_lload X.1 X.2.1 dX6_seatOf_10 (lv_at hl 0 rfl) ?_
  refine lv_lload X.1 X.2.1 dX6_seatOf_12 (lv_at hl 0 rfl) ?_
  refine lv_bipush (v := (29 : Int32)) X.1 X.2.1 dX6_seatOf_14 (by decide) ?_
  refine lv_lushr X.1 X.2.1 dX6_seatOf_16 rfl ?_
  refine lv_lxor X.1 X.2.1 dX6_seatOf_17 ?_
  refine lv_lload X.1 X.2.1 dX6_seatOf_18 (lv_at hl 0 rfl) ?_
  refine lv_bipush (v := (47 : Int32)) X.1 X.2.1 dX6_seatOf_20 (by decide) ?_
  refine lv_lushr X.1 X.2.1 dX6_seatOf_22 rfl ?_
  refine lv_lxor X.1 X.2.1 dX6_seatOf_23 ?_
  refine lv_topl (fun v4_2 e_v4_2 => ?_)
  replace h := h v4_2 e_v4_2
  refine lv_lstore (lv' := [(4, .long v4_2), (0, .ref hMO), (1, .long v1), (3, .int v3)]) X.1 X.2.1 dX6_seatOf_24 hl (by decide) rfl (fun ls hl => ?_)
  refine lv_lload X.1 X.2.1 dX6_seatOf_26 (lv_at hl 0 rfl) ?_
  refine lv_ldc2 (v := (32767 : Int64)) X.1 X.2.1 X.2.2.2.1 (X.2.2.2.2.1 _ cn_X6_164) dX6_seatOf_28 ?_
  refine lv_land X.1 X.2.1 dX6_seatOf_31 ?_
  refine lv_l2i (v := (v4_2 &&& (32767 : Int64)).toInt32) X.1 X.2.1 dX6_seatOf_32 rfl ?_
  refine lv_topi (fun v6_3 e_v6_3 => ?_)
  replace h := h v6_3 e_v6_3
  refine lv_istore (lv' := [(6, .int v6_3), (4, .long v4_2), (0, .ref hMO), (1, .long v1), (3, .int v3)]) X.1 X.2.1 dX6_seatOf_33 hl (by decide) rfl (fun ls hl => ?_)
  obtain ⟨n', h⟩ := h
  exact s_MO_seatOf_35 X  n' v1 v3 v6_3 _ _ _ h hP hD hS (lv_sub hl [2, 3, 4, 0] rfl)
abbrev rm_MO_isNew : Room := { frames := 3, cells := 0, slots := 0, locals := 75 }
set_option maxHeartbeats 4000000 in
set_option maxRecDepth 100000 in
theorem c_MO_isNew (l : Launch) (G : gEnv) (hMO : Nat) (hTM : Nat) (hDO : Nat) (hXB : Nat) (hXC : Nat) (hXF : Nat) (hXY : Nat) (hXS : Nat) (hXP : Nat) (hFA : Nat) (hLE : Nat) (mo_thrown : Int32) (mo_size : Int32) (mo_isBoard : Int32) (mo_width : Int32) (mo_height : Int32) (mo_person : Int32) (mo_moves : Int32) (mo_pushes : Int32) (mo_floor : Int64) (mo_goals : Int64) (mo_boxes : Int64) (mo_newFloor : Int64) (mo_newGoals : Int64) (mo_newBoxes : Int64) (mo_newPerson : Int32) (mo_newWidth : Int32) (mo_kept : Int32) (mo_many : Int32) (mo_taken : Int32) (mo_length : Int32) (aXB : Nat → Int64) (aXC : Nat → Int32) (aXF : Nat → Int32) (aXY : Nat → Int32) (aXS : Nat → Int32) (v1 : Int64) (v3 : Int32) (v4 : Int32) (v5 : Int32) (post : Int32 → Int32 → (Nat → Int64) → (Nat → Int32) → (Nat → Int32) → (Nat → Int32) → (Nat → Int32) → Prop) (h : MO_isNew mo_width mo_height mo_floor mo_many aXB aXC aXF aXY aXS v1 v3 v4 v5 post) (sz : Nat) : Met l yX6_isNew (Cond.code yX6_isNew cX6_isNew 8 (some .boolean) :: wAll) (rm_MO_isNew) (gPc G [.ref hMO, .long v1, .int v3, .int v4, .int v5] [cMO hMO mo_thrown mo_size hTM mo_isBoard mo_width mo_height mo_person mo_moves mo_pushes mo_floor mo_goals mo_boxes mo_newFloor mo_newGoals mo_newBoxes mo_newPerson mo_newWidth mo_kept hDO mo_many mo_taken mo_length hXB hXC hXF hXY hXS hXP hFA hLE, cJ G hXB 10001 aXB, cI G hXC 10001 aXC, cI G hXF 10001 aXF, cI G hXY 10001 aXY, cI G hXS 32768 aXS] sz) (gQi G (fun (r : Int32) (u : Int32 × (Nat → Int64) × (Nat → Int32) × (Nat → Int32) × (Nat → Int32) × (Nat → Int32)) => post r u.1 u.2.1 u.2.2.1 u.2.2.2.1 u.2.2.2.2.1 u.2.2.2.2.2) (fun (u : Int32 × (Nat → Int64) × (Nat → Int32) × (Nat → Int32) × (Nat → Int32) × (Nat → Int32)) => [cMO hMO mo_thrown mo_size hTM mo_isBoard mo_width mo_height mo_person mo_moves mo_pushes mo_floor mo_goals mo_boxes mo_newFloor mo_newGoals mo_newBoxes mo_newPerson mo_newWidth mo_kept hDO u.1 mo_taken mo_length hXB hXC hXF hXY hXS hXP hFA hLE, cJ G hXB 10001 u.2.1, cI G hXC 10001 u.2.2.1, cI G hXF 10001 u.2.2.2.1, cI G hXY 10001 u.2.2.2.2.1, cI G hXS 32768 u.2.2.2.2.2]) (va_A [cMO hMO mo_thrown mo_size hTM mo_isBoard mo_width mo_height mo_person mo_moves mo_pushes mo_floor mo_goals mo_boxes mo_newFloor mo_newGoals mo_newBoxes mo_newPerson mo_newWidth mo_kept hDO mo_many mo_taken mo_length hXB hXC hXF hXY hXS hXP hFA hLE, cJ G hXB 10001 aXB, cI G hXC 10001 aXC, cI G hXF 10001 aXF, cI G hXY 10001 aXY, cI G hXS 32768 aXS] sz)) 0 0 (va_A [cMO hMO mo_thrown mo_size hTM mo_isBoard mo_width mo_height mo_person mo_moves mo_pushes mo_floor mo_goals mo_boxes mo_newFloor mo_newGoals mo_newBoxes mo_newPerson mo_newWidth mo_kept hDO mo_many mo_taken mo_length hXB hXC hXF hXY hXS hXP hFA hLE, cJ G hXB 10001 aXB, cI G hXC 10001 aXC, cI G hXF 10001 aXF, cI G hXY 10001 aXY, cI G hXS 32768 aXS] sz) := by
  refine Met.ofW (cc := cX6_isNew) (maxL := 8) (ret := (some .boolean)) (by decide) rfl ?_
  intro p e s m args below meth c s₁ B hml hv
  obtain ⟨rfl, hsz, hP, hK, hD0⟩ := hv
  subst hsz
  have X := gX.ofB (ws := [cMO hMO mo_thrown mo_size hTM mo_isBoard mo_width mo_height mo_person mo_moves mo_pushes mo_floor mo_goals mo_boxes mo_newFloor mo_newGoals mo_newBoxes mo_newPerson mo_newWidth mo_kept hDO mo_many mo_taken mo_length hXB hXC hXF hXY hXS hXP hFA hLE, cJ G hXB 10001 aXB, cI G hXC 10001 aXC, cI G hXF 10001 aXF, cI G hXY 10001 aXY, cI G hXS 32768 aXS]) B hml hK hD0
  have hD := hD0.self (sz := s.heap.size)
  generalize hAe : va_A [cMO hMO mo_thrown mo_size hTM mo_isBoard mo_width mo_height mo_person mo_moves mo_pushes mo_floor mo_goals mo_boxes mo_newFloor mo_newGoals mo_newBoxes mo_newPerson mo_newWidth mo_kept hDO mo_many mo_taken mo_length hXB hXC hXF hXY hXS hXP hFA hLE, cJ G hXB 10001 aXB, cI G hXC 10001 aXC, cI G hXF 10001 aXF, cI G hXY 10001 aXY, cI G hXS 32768 aXS] s.heap.size = A at X hD ⊢
  have hS : va_S A s.heap s.heap [] := va_S.rf
  have hl := lv_entry ([.ref hMO, .long v1, .int v3, .int v4, .int v5]) (n := 8) (Nat.le_of_ble_eq_true rfl)
  rw [lg_entry_eq]
  generalize (lg_sl ([.ref hMO, .long v1, .int v3, .int v4, .int v5]) ++ List.replicate (8 - (lg_sl ([.ref hMO, .long v1, .int v3, .int v4, .int v5])).length) Slot.unset).toArray = ls at hl ⊢
  have hl : lv_has ls 8 [(0, .ref hMO), (1, .long v1), (3, .int v3), (4, .int v4), (5, .int v5)] := hl
  dsimp only [headSpec]
  unfold MO_isNew at h
  refine lv_aload_n X.1 X.2.1 dX6_isNew_0 rfl (lv_at hl 0 rfl) ?_
  refine lv_iload_n X.1 X.2.1 dX6_isNew_1 rfl (lv_at hl 2 rfl) ?_
  refine lv_lload_n X.1 X.2.1 dX6_isNew_2 rfl (lv_at hl 1 rfl) ?_
  refine g_cl (wr := [cJ G hXB 10001 aXB, cI G hXC 10001 aXC, cI G hXF 10001 aXF, cI G hXY 10001 aXY, cI G hXS 32768 aXS]) X [0] [1, 2, 3, 4, 5] (g_rV (As := [.int v3, .long v1]) (rest := []) X (c_MO_reachOf l G hMO hTM hDO hXB hXC hXF hXY hXS hXP hFA hLE mo_thrown mo_size mo_isBoard mo_width mo_height mo_person mo_moves mo_pushes mo_floor mo_goals mo_boxes mo_newFloor mo_newGoals mo_newBoxes mo_newPerson mo_newWidth mo_kept mo_many mo_taken mo_length v3 v1 _ h _) lk_X6_139 rfl rfl ⟨Nat.le_of_ble_eq_true rfl, Nat.le_of_ble_eq_true rfl⟩ hP hD hS [0] rfl rfl 0 6 rfl rfl rfl hl.1 rfl (Nat.le_of_ble_eq_true rfl) dX6_isNew_3 ⟨Nat.le_of_ble_eq_true rfl, Nat.le_of_ble_eq_true rfl⟩) hP hD hS rfl rfl rfl (by decide) (fun r_1 u H locs h hP hD hS => ?_)
  try dsimp only at h
  replace hP := hP.sub (ws' := [cMO hMO mo_thrown mo_size hTM mo_isBoard mo_width mo_height mo_person mo_moves mo_pushes mo_floor mo_goals mo_boxes mo_newFloor mo_newGoals mo_newBoxes mo_newPerson mo_newWidth mo_kept hDO mo_many mo_taken mo_length hXB hXC hXF hXY hXS hXP hFA hLE, cJ G hXB 10001 aXB, cI G hXC 10001 aXC, cI G hXF 10001 aXF, cI G hXY 10001 aXY, cI G hXS 32768 aXS]) [5, 0, 1, 2, 3, 4] rfl
  replace hD := hD.sub (ws' := [cMO hMO mo_thrown mo_size hTM mo_isBoard mo_width mo_height mo_person mo_moves mo_pushes mo_floor mo_goals mo_boxes mo_newFloor mo_newGoals mo_newBoxes mo_newPerson mo_newWidth mo_kept hDO mo_many mo_taken mo_length hXB hXC hXF hXY hXS hXP hFA hLE, cJ G hXB 10001 aXB, cI G hXC 10001 aXC, cI G hXF 10001 aXF, cI G hXY 10001 aXY, cI G hXS 32768 aXS]) [5, 0, 1, 2, 3, 4] rfl rfl
  refine g_ci (wr := [cMO hMO mo_thrown mo_size hTM mo_isBoard mo_width mo_height mo_person mo_moves mo_pushes mo_floor mo_goals mo_boxes mo_newFloor mo_newGoals mo_newBoxes mo_newPerson mo_newWidth mo_kept hDO mo_many mo_taken mo_length hXB hXC hXF hXY hXS hXP hFA hLE, cJ G hXB 10001 aXB, cI G hXC 10001 aXC, cI G hXF 10001 aXF, cI G hXY 10001 aXY, cI G hXS 32768 aXS]) X [] [0, 1, 2, 3, 4, 5] (g_rS (As := [.long r_1]) (rest := []) X (c_MO_leastOf l G r_1 _ h _) lk_X6_166 rfl rfl ⟨Nat.le_of_ble_eq_true rfl, Nat.le_of_ble_eq_true rfl⟩ hP hD hS [] rfl rfl rfl hl.1 rfl (Nat.le_of_ble_eq_true rfl) dX6_isNew_6 ⟨Nat.le_of_ble_eq_true rfl, Nat.le_of_ble_eq_true rfl⟩) hP hD hS rfl rfl rfl (by decide) (fun r_2 u H locs h hP hD hS => ?_)
  try dsimp only at h
  replace hP := hP.sub (ws' := [cMO hMO mo_thrown mo_size hTM mo_isBoard mo_width mo_height mo_person mo_moves mo_pushes mo_floor mo_goals mo_boxes mo_newFloor mo_newGoals mo_newBoxes mo_newPerson mo_newWidth mo_kept hDO mo_many mo_taken mo_length hXB hXC hXF hXY hXS hXP hFA hLE, cJ G hXB 10001 aXB, cI G hXC 10001 aXC, cI G hXF 10001 aXF, cI G hXY 10001 aXY, cI G hXS 32768 aXS]) [0, 1, 2, 3, 4, 5] rfl
  replace hD := hD.sub (ws' := [cMO hMO mo_thrown mo_size hTM mo_isBoard mo_width mo_height mo_person mo_moves mo_pushes mo_floor mo_goals mo_boxes mo_newFloor mo_newGoals mo_newBoxes mo_newPerson mo_newWidth mo_kept hDO mo_many mo_taken mo_length hXB hXC hXF hXY hXS hXP hFA hLE, cJ G hXB 10001 aXB, cI G hXC 10001 aXC, cI G hXF 10001 aXF, cI G hXY 10001 aXY, cI G hXS 32768 aXS]) [0, 1, 2, 3, 4, 5] rfl rfl
  refine lv_istore (lv' := [(6, .int r_2), (0, .ref hMO), (1, .long v1), (3, .int v3), (4, .int v4), (5, .int v5)]) X.1 X.2.1 dX6_isNew_9 hl (by decide) rfl (fun ls hl => ?_)
  refine lv_aload_n X.1 X.2.1 dX6_isNew_11 rfl (lv_at hl 1 rfl) ?_
  refine lv_lload_n X.1 X.2.1 dX6_isNew_12 rfl (lv_at hl 2 rfl) ?_
  refine lv_iload X.1 X.2.1 dX6_isNew_13 (lv_at hl 0 rfl) ?_
  refine g_ci (wr := [cI G hXF 10001 aXF, cI G hXY 10001 aXY]) X [0, 1, 2, 5] [3, 4] (g_rV (As := [.long v1, .int r_2]) (rest := []) X (c_MO_seatOf l G hMO hTM hDO hXB hXC hXF hXY hXS hXP hFA hLE mo_thrown mo_size mo_isBoard mo_width mo_height mo_person mo_moves mo_pushes mo_floor mo_goals mo_boxes mo_newFloor mo_newGoals mo_newBoxes mo_newPerson mo_newWidth mo_kept mo_many mo_taken mo_length aXB aXC aXS v1 r_2 _ h _) lk_X6_169 rfl rfl ⟨Nat.le_of_ble_eq_true rfl, Nat.le_of_ble_eq_true rfl⟩ hP hD hS [0, 1, 2, 5] rfl rfl 0 6 rfl rfl rfl hl.1 rfl (Nat.le_of_ble_eq_true rfl) dX6_isNew_15 ⟨Nat.le_of_ble_eq_true rfl, Nat.le_of_ble_eq_true rfl⟩) hP hD hS rfl rfl rfl (by decide) (fun r_3 u H locs h hP hD hS => ?_)
  try dsimp only at h
  replace hP := hP.sub (ws' := [cMO hMO mo_thrown mo_size hTM mo_isBoard mo_width mo_height mo_person mo_moves mo_pushes mo_floor mo_goals mo_boxes mo_newFloor mo_newGoals mo_newBoxes mo_newPerson mo_newWidth mo_kept hDO mo_many mo_taken mo_length hXB hXC hXF hXY hXS hXP hFA hLE, cJ G hXB 10001 aXB, cI G hXC 10001 aXC, cI G hXF 10001 aXF, cI G hXY 10001 aXY, cI G hXS 32768 aXS]) [2, 3, 4, 0, 1, 5] rfl
  replace hD := hD.sub (ws' := [cMO hMO mo_thrown mo_size hTM mo_isBoard mo_width mo_height mo_person mo_moves mo_pushes mo_floor mo_goals mo_boxes mo_newFloor mo_newGoals mo_newBoxes mo_newPerson mo_newWidth mo_kept hDO mo_many mo_taken mo_length hXB hXC hXF hXY hXS hXP hFA hLE, cJ G hXB 10001 aXB, cI G hXC 10001 aXC, cI G hXF 10001 aXF, cI G hXY 10001 aXY, cI G hXS 32768 aXS]) [2, 3, 4, 0, 1, 5] rfl rfl
  refine lv_istore (lv' := [(7, .int r_3), (6, .int r_2), (0, .ref hMO), (1, .long v1), (3, .int v3), (4, .int v4), (5, .int v5)]) X.1 X.2.1 dX6_isNew_18 hl (by decide) rfl (fun ls hl => ?_)
  refine lv_aload_n X.1 X.2.1 dX6_isNew_20 rfl (lv_at hl 2 rfl) ?_
  refine g_get X hP 0 6 26 (v := .ref hXS) rfl rfl inX6 (by decide) fl_X6_30 rfl dX6_isNew_21 ?_
  refine lv_iload X.1 X.2.1 dX6_isNew_24 (lv_at hl 0 rfl) ?_
  obtain ⟨hin, h⟩ := h
  refine va_iald (D := G.1) X.1 X.2.1 X.k.1 hP 5 0 rfl rfl hin dX6_isNew_26 ?_
  refine lv_if_lt (tgt := 32) X.1 X.2.1 dX6_isNew_27 (by decide) (fun hc => ?_) (fun hc => ?_)
  · replace h := Eq.mp (if_pos hc) h
    refine lv_aload_n X.1 X.2.1 dX6_isNew_32 rfl (lv_at hl 2 rfl) ?_
    refine g_get X hP 0 6 26 (v := .ref hXS) rfl rfl inX6 (by decide) fl_X6_30 rfl dX6_isNew_33 ?_
    refine lv_iload X.1 X.2.1 dX6_isNew_36 (lv_at hl 0 rfl) ?_
    refine lv_aload_n X.1 X.2.1 dX6_isNew_38 rfl (lv_at hl 2 rfl) ?_
    refine g_get X hP 0 6 19 (v := .int mo_many) rfl rfl inX6 (by decide) fl_X6_173 rfl dX6_isNew_39 ?_
    obtain ⟨hin, h⟩ := h
    refine g_ist X hP hD hS 5 rfl hin dX6_isNew_42 (fun aXS_4 e_aXS_4 H locs hP hD hS => ?_)
    replace h := h aXS_4 e_aXS_4
    replace hP : va_P G.1 gCl [cMO hMO mo_thrown mo_size hTM mo_isBoard mo_width mo_height mo_person mo_moves mo_pushes mo_floor mo_goals mo_boxes mo_newFloor mo_newGoals mo_newBoxes mo_newPerson mo_newWidth mo_kept hDO mo_many mo_taken mo_length hXB hXC hXF hXY hXS hXP hFA hLE, cJ G hXB 10001 aXB, cI G hXC 10001 aXC, cI G hXF 10001 aXF, cI G hXY 10001 aXY, cI G hXS 32768 aXS_4] H := hP
    replace hD : va_D A [cMO hMO mo_thrown mo_size hTM mo_isBoard mo_width mo_height mo_person mo_moves mo_pushes mo_floor mo_goals mo_boxes mo_newFloor mo_newGoals mo_newBoxes mo_newPerson mo_newWidth mo_kept hDO mo_many mo_taken mo_length hXB hXC hXF hXY hXS hXP hFA hLE, cJ G hXB 10001 aXB, cI G hXC 10001 aXC, cI G hXF 10001 aXF, cI G hXY 10001 aXY, cI G hXS 32768 aXS_4] := hD
    refine lv_aload_n X.1 X.2.1 dX6_isNew_43 rfl (lv_at hl 2 rfl) ?_
    refine g_get X hP 0 6 22 (v := .ref hXB) rfl rfl inX6 (by decide) fl_X6_16 rfl dX6_isNew_44 ?_
    refine lv_aload_n X.1 X.2.1 dX6_isNew_47 rfl (lv_at hl 2 rfl) ?_
    refine g_get X hP 0 6 19 (v := .int mo_many) rfl rfl inX6 (by decide) fl_X6_173 rfl dX6_isNew_48 ?_
    refine lv_lload_n X.1 X.2.1 dX6_isNew_51 rfl (lv_at hl 3 rfl) ?_
    obtain ⟨hin, h⟩ := h
    refine g_lst X hP hD hS 1 rfl hin dX6_isNew_52 (fun aXB_5 e_aXB_5 H locs hP hD hS => ?_)
    replace h := h aXB_5 e_aXB_5
    replace hP : va_P G.1 gCl [cMO hMO mo_thrown mo_size hTM mo_isBoard mo_width mo_height mo_person mo_moves mo_pushes mo_floor mo_goals mo_boxes mo_newFloor mo_newGoals mo_newBoxes mo_newPerson mo_newWidth mo_kept hDO mo_many mo_taken mo_length hXB hXC hXF hXY hXS hXP hFA hLE, cJ G hXB 10001 aXB_5, cI G hXC 10001 aXC, cI G hXF 10001 aXF, cI G hXY 10001 aXY, cI G hXS 32768 aXS_4] H := hP
    replace hD : va_D A [cMO hMO mo_thrown mo_size hTM mo_isBoard mo_width mo_height mo_person mo_moves mo_pushes mo_floor mo_goals mo_boxes mo_newFloor mo_newGoals mo_newBoxes mo_newPerson mo_newWidth mo_kept hDO mo_many mo_taken mo_length hXB hXC hXF hXY hXS hXP hFA hLE, cJ G hXB 10001 aXB_5, cI G hXC 10001 aXC, cI G hXF 10001 aXF, cI G hXY 10001 aXY, cI G hXS 32768 aXS_4] := hD
    refine lv_aload_n X.1 X.2.1 dX6_isNew_53 rfl (lv_at hl 2 rfl) ?_
    refine g_get X hP 0 6 23 (v := .ref hXC) rfl rfl inX6 (by decide) fl_X6_20 rfl dX6_isNew_54 ?_
    refine lv_aload_n X.1 X.2.1 dX6_isNew_57 rfl (lv_at hl 2 rfl) ?_
    refine g_get X hP 0 6 19 (v := .int mo_many) rfl rfl inX6 (by decide) fl_X6_173 rfl dX6_isNew_58 ?_
    refine lv_iload X.1 X.2.1 dX6_isNew_61 (lv_at hl 1 rfl) ?_
    obtain ⟨hin, h⟩ := h
    refine g_ist X hP hD hS 2 rfl hin dX6_isNew_63 (fun aXC_6 e_aXC_6 H locs hP hD hS => ?_)
    replace h := h aXC_6 e_aXC_6
    replace hP : va_P G.1 gCl [cMO hMO mo_thrown mo_size hTM mo_isBoard mo_width mo_height mo_person mo_moves mo_pushes mo_floor mo_goals mo_boxes mo_newFloor mo_newGoals mo_newBoxes mo_newPerson mo_newWidth mo_kept hDO mo_many mo_taken mo_length hXB hXC hXF hXY hXS hXP hFA hLE, cJ G hXB 10001 aXB_5, cI G hXC 10001 aXC_6, cI G hXF 10001 aXF, cI G hXY 10001 aXY, cI G hXS 32768 aXS_4] H := hP
    replace hD : va_D A [cMO hMO mo_thrown mo_size hTM mo_isBoard mo_width mo_height mo_person mo_moves mo_pushes mo_floor mo_goals mo_boxes mo_newFloor mo_newGoals mo_newBoxes mo_newPerson mo_newWidth mo_kept hDO mo_many mo_taken mo_length hXB hXC hXF hXY hXS hXP hFA hLE, cJ G hXB 10001 aXB_5, cI G hXC 10001 aXC_6, cI G hXF 10001 aXF, cI G hXY 10001 aXY, cI G hXS 32768 aXS_4] := hD
    refine lv_aload_n X.1 X.2.1 dX6_isNew_64 rfl (lv_at hl 2 rfl) ?_
    refine g_get X hP 0 6 24 (v := .ref hXF) rfl rfl inX6 (by decide) fl_X6_23 rfl dX6_isNew_65 ?_
    refine lv_aload_n X.1 X.2.1 dX6_isNew_68 rfl (lv_at hl 2 rfl) ?_
    refine g_get X hP 0 6 19 (v := .int mo_many) rfl rfl inX6 (by decide) fl_X6_173 rfl dX6_isNew_69 ?_
    refine lv_iload X.1 X.2.1 dX6_isNew_72 (lv_at hl 5 rfl) ?_
    obtain ⟨hin, h⟩ := h
    refine g_ist X hP hD hS 3 rfl hin dX6_isNew_74 (fun aXF_7 e_aXF_7 H locs hP hD hS => ?_)
    replace h := h aXF_7 e_aXF_7
    replace hP : va_P G.1 gCl [cMO hMO mo_thrown mo_size hTM mo_isBoard mo_width mo_height mo_person mo_moves mo_pushes mo_floor mo_goals mo_boxes mo_newFloor mo_newGoals mo_newBoxes mo_newPerson mo_newWidth mo_kept hDO mo_many mo_taken mo_length hXB hXC hXF hXY hXS hXP hFA hLE, cJ G hXB 10001 aXB_5, cI G hXC 10001 aXC_6, cI G hXF 10001 aXF_7, cI G hXY 10001 aXY, cI G hXS 32768 aXS_4] H := hP
    replace hD : va_D A [cMO hMO mo_thrown mo_size hTM mo_isBoard mo_width mo_height mo_person mo_moves mo_pushes mo_floor mo_goals mo_boxes mo_newFloor mo_newGoals mo_newBoxes mo_newPerson mo_newWidth mo_kept hDO mo_many mo_taken mo_length hXB hXC hXF hXY hXS hXP hFA hLE, cJ G hXB 10001 aXB_5, cI G hXC 10001 aXC_6, cI G hXF 10001 aXF_7, cI G hXY 10001 aXY, cI G hXS 32768 aXS_4] := hD
    refine lv_aload_n X.1 X.2.1 dX6_isNew_75 rfl (lv_at hl 2 rfl) ?_
    refine g_get X hP 0 6 25 (v := .ref hXY) rfl rfl inX6 (by decide) fl_X6_26 rfl dX6_isNew_76 ?_
    refine lv_aload_n X.1 X.2.1 dX6_isNew_79 rfl (lv_at hl 2 rfl) ?_
    refine g_get X hP 0 6 19 (v := .int mo_many) rfl rfl inX6 (by decide) fl_X6_173 rfl dX6_isNew_80 ?_
    refine lv_iload X.1 X.2.1 dX6_isNew_83 (lv_at hl 6 rfl) ?_
    obtain ⟨hin, h⟩ := h
    refine g_ist X hP hD hS 4 rfl hin dX6_isNew_85 (fun aXY_8 e_aXY_8 H locs hP hD hS => ?_)
    replace h := h aXY_8 e_aXY_8
    replace hP : va_P G.1 gCl [cMO hMO mo_thrown mo_size hTM mo_isBoard mo_width mo_height mo_person mo_moves mo_pushes mo_floor mo_goals mo_boxes mo_newFloor mo_newGoals mo_newBoxes mo_newPerson mo_newWidth mo_kept hDO mo_many mo_taken mo_length hXB hXC hXF hXY hXS hXP hFA hLE, cJ G hXB 10001 aXB_5, cI G hXC 10001 aXC_6, cI G hXF 10001 aXF_7, cI G hXY 10001 aXY_8, cI G hXS 32768 aXS_4] H := hP
    replace hD : va_D A [cMO hMO mo_thrown mo_size hTM mo_isBoard mo_width mo_height mo_person mo_moves mo_pushes mo_floor mo_goals mo_boxes mo_newFloor mo_newGoals mo_newBoxes mo_newPerson mo_newWidth mo_kept hDO mo_many mo_taken mo_length hXB hXC hXF hXY hXS hXP hFA hLE, cJ G hXB 10001 aXB_5, cI G hXC 10001 aXC_6, cI G hXF 10001 aXF_7, cI G hXY 10001 aXY_8, cI G hXS 32768 aXS_4] := hD
    refine lv_aload_n X.1 X.2.1 dX6_isNew_86 rfl (lv_at hl 2 rfl) ?_
    refine lv_dup X.1 X.2.1 dX6_isNew_87 rfl ?_
    refine g_get X hP 0 6 19 (v := .int mo_many) rfl rfl inX6 (by decide) fl_X6_173 rfl dX6_isNew_88 ?_
    refine lv_iconst (v := (1 : Int32)) X.1 X.2.1 dX6_isNew_91 (by decide) ?_
    refine lv_iadd X.1 X.2.1 dX6_isNew_92 ?_
    refine lv_topi (fun mo_many_9 e_mo_many_9 => ?_)
    replace h := h mo_many_9 e_mo_many_9
    refine g_put X hP hD hS 0 6 19 (v := .int mo_many_9) rfl rfl inX6 tyX6 tyX6_ok nmX6 (by decide) fl_X6_173 rfl rfl rfl rfl (Nat.le_of_ble_eq_true rfl) dX6_isNew_93 (fun H locs hP hD hS => ?_)
    replace hP : va_P G.1 gCl [cMO hMO mo_thrown mo_size hTM mo_isBoard mo_width mo_height mo_person mo_moves mo_pushes mo_floor mo_goals mo_boxes mo_newFloor mo_newGoals mo_newBoxes mo_newPerson mo_newWidth mo_kept hDO mo_many_9 mo_taken mo_length hXB hXC hXF hXY hXS hXP hFA hLE, cJ G hXB 10001 aXB_5, cI G hXC 10001 aXC_6, cI G hXF 10001 aXF_7, cI G hXY 10001 aXY_8, cI G hXS 32768 aXS_4] H := hP
    replace hD : va_D A [cMO hMO mo_thrown mo_size hTM mo_isBoard mo_width mo_height mo_person mo_moves mo_pushes mo_floor mo_goals mo_boxes mo_newFloor mo_newGoals mo_newBoxes mo_newPerson mo_newWidth mo_kept hDO mo_many_9 mo_taken mo_length hXB hXC hXF hXY hXS hXP hFA hLE, cJ G hXB 10001 aXB_5, cI G hXC 10001 aXC_6, cI G hXF 10001 aXF_7, cI G hXY 10001 aXY_8, cI G hXS 32768 aXS_4] := hD
    refine lv_iconst (v := (1 : Int32)) X.1 X.2.1 dX6_isNew_96 (by decide) ?_
    exact g_zret X (by decide) (mo_many_9, aXB_5, aXC_6, aXF_7, aXY_8, aXS_4) h hP hD hS dX6_isNew_97
  · replace h := Eq.mp (if_neg hc) h
    refine lv_iconst (v := (0 : Int32)) X.1 X.2.1 dX6_isNew_30 (by decide) ?_
    exact g_zret X (by decide) (mo_many, aXB, aXC, aXF, aXY, aXS) h hP hD hS dX6_isNew_31
abbrev rm_MO_spread : Room := { frames := 4, cells := 0, slots := 0, locals := 103 }
set_option maxHeartbeats 4000000 in
set_option maxRecDepth 100000 in
theorem s_MO_spread_108 {p : Program} {l : Launch} {e : Env} {s : State} {m : MethodId} {args : Array Value} {below : List Frame} {meth : Method} {c : Code} {G : gEnv} {A : Nat → Prop} {hMO : Nat} {hTM : Nat} {hDO : Nat} {hXB : Nat} {hXC : Nat} {hXF : Nat} {hXY : Nat} {hXS : Nat} {hXP : Nat} {hFA : Nat} {hLE : Nat} {mo_thrown : Int32} {mo_size : Int32} {mo_isBoard : Int32} {mo_moves : Int32} {mo_pushes : Int32} {mo_newFloor : Int64} {mo_newGoals : Int64} {mo_newBoxes : Int64} {mo_newPerson : Int32} {mo_newWidth : Int32} {mo_kept : Int32} {mo_taken : Int32} {mo_length : Int32} {mo_width : Int32} {mo_height : Int32} {mo_person : Int32} {mo_floor : Int64} {mo_goals : Int64} {mo_boxes : Int64} {k98 : Int32 → (Nat → Int64) → (Nat → Int32) → (Nat → Int32) → (Nat → Int32) → (Nat → Int32) → Int32 → Int64 → Int32 → Int64 → Int64 → Int32 → Prop} {post : Int32 → Int32 → (Nat → Int64) → (Nat → Int32) → (Nat → Int32) → (Nat → Int32) → (Nat → Int32) → Prop} (X : gX p m meth c cX6_spread 14 RX6 (some .int) s args G A) (hk98 : ∀ (mo_many' : Int32) (aXB' : (Nat → Int64)) (aXC' : (Nat → Int32)) (aXF' : (Nat → Int32)) (aXY' : (Nat → Int32)) (aXS' : (Nat → Int32)) (v1' : Int32) (v2' : Int64) (v4' : Int32) (v5' : Int64) (v7' : Int64) (v9' : Int32) (H : Heap) (locs : List Loc) (ls : Array Slot), k98 mo_many' aXB' aXC' aXF' aXY' aXS' v1' v2' v4' v5' v7' v9' → va_P G.1 gCl [cMO hMO mo_thrown mo_size hTM mo_isBoard mo_width mo_height mo_person mo_moves mo_pushes mo_floor mo_goals mo_boxes mo_newFloor mo_newGoals mo_newBoxes mo_newPerson mo_newWidth mo_kept hDO mo_many' mo_taken mo_length hXB hXC hXF hXY hXS hXP hFA hLE, cJ G hXB 10001 aXB', cI G hXC 10001 aXC', cI G hXF 10001 aXF', cI G hXY 10001 aXY', cI G hXS 32768 aXS'] H → va_D A [cMO hMO mo_thrown mo_size hTM mo_isBoard mo_width mo_height mo_person mo_moves mo_pushes mo_floor mo_goals mo_boxes mo_newFloor mo_newGoals mo_newBoxes mo_newPerson mo_newWidth mo_kept hDO mo_many' mo_taken mo_length hXB hXC hXF hXY hXS hXP hFA hLE, cJ G hXB 10001 aXB', cI G hXC 10001 aXC', cI G hXF 10001 aXF', cI G hXY 10001 aXY', cI G hXS 32768 aXS'] → va_S A s.heap H locs → lv_has ls 14 [(0, .ref hMO), (1, .int v1'), (2, .long v2'), (4, .int v4'), (5, .long v5'), (7, .long v7'), (9, .int v9')] → W p l e rm_MO_spread s m args below meth c H locs 0 0 (MQ below (gQi G (fun (r : Int32) (u : Int32 × (Nat → Int64) × (Nat → Int32) × (Nat → Int32) × (Nat → Int32) × (Nat → Int32)) => post r u.1 u.2.1 u.2.2.1 u.2.2.2.1 u.2.2.2.2.1 u.2.2.2.2.2) (fun (u : Int32 × (Nat → Int64) × (Nat → Int32) × (Nat → Int32) × (Nat → Int32) × (Nat → Int32)) => [cMO hMO mo_thrown mo_size hTM mo_isBoard mo_width mo_height mo_person mo_moves mo_pushes mo_floor mo_goals mo_boxes mo_newFloor mo_newGoals mo_newBoxes mo_newPerson mo_newWidth mo_kept hDO u.1 mo_taken mo_length hXB hXC hXF hXY hXS hXP hFA hLE, cJ G hXB 10001 u.2.1, cI G hXC 10001 u.2.2.1, cI G hXF 10001 u.2.2.2.1, cI G hXY 10001 u.2.2.2.2.1, cI G hXS 32768 u.2.2.2.2.2]) A) args s 0 0 A) (F0 m 98 ls [])) : ∀ (n : Nat) (mo_many : Int32) (aXB : (Nat → Int64)) (aXC : (Nat → Int32)) (aXF : (Nat → Int32)) (aXY : (Nat → Int32)) (aXS : (Nat → Int32)) (v1 : Int32) (v2 : Int64) (v4 : Int32) (v5 : Int64) (v7 : Int64) (v9 : Int32) (v10 : Int32) (H : Heap) (locs : List Loc) (ls : Array Slot), MO_spread_108 mo_width mo_height mo_person mo_floor mo_goals mo_boxes k98 post n mo_many aXB aXC aXF aXY aXS v1 v2 v4 v5 v7 v9 v10 → va_P G.1 gCl [cMO hMO mo_thrown mo_size hTM mo_isBoard mo_width mo_height mo_person mo_moves mo_pushes mo_floor mo_goals mo_boxes mo_newFloor mo_newGoals mo_newBoxes mo_newPerson mo_newWidth mo_kept hDO mo_many mo_taken mo_length hXB hXC hXF hXY hXS hXP hFA hLE, cJ G hXB 10001 aXB, cI G hXC 10001 aXC, cI G hXF 10001 aXF, cI G hXY 10001 aXY, cI G hXS 32768 aXS] H → va_D A [cMO hMO mo_thrown mo_size hTM mo_isBoard mo_width mo_height mo_person mo_moves mo_pushes mo_floor mo_goals mo_boxes mo_newFloor mo_newGoals mo_newBoxes mo_newPerson mo_newWidth mo_kept hDO mo_many mo_taken mo_length hXB hXC hXF hXY hXS hXP hFA hLE, cJ G hXB 10001 aXB, cI G hXC 10001 aXC, cI G hXF 10001 aXF, cI G hXY 10001 aXY, cI G hXS 32768 aXS] → va_S A s.heap H locs → lv_has ls 14 [(0, .ref hMO), (1, .int v1), (2, .long v2), (4, .int v4), (5, .long v5), (7, .long v7), (9, .int v9), (10, .int v10)] → W p l e rm_MO_spread s m args below meth c H locs 0 0 (MQ below (gQi G (fun (r : Int32) (u : Int32 × (Nat → Int64) × (Nat → Int32) × (Nat → Int32) × (Nat → Int32) × (Nat → Int32)) => post r u.1 u.2.1 u.2.2.1 u.2.2.2.1 u.2.2.2.2.1 u.2.2.2.2.2) (fun (u : Int32 × (Nat → Int64) × (Nat → Int32) × (Nat → Int32) × (Nat → Int32) × (Nat → Int32)) => [cMO hMO mo_thrown mo_size hTM mo_isBoard mo_width mo_height mo_person mo_moves mo_pushes mo_floor mo_goals mo_boxes mo_newFloor mo_newGoals mo_newBoxes mo_newPerson mo_newWidth mo_kept hDO u.1 mo_taken mo_length hXB hXC hXF hXY hXS hXP hFA hLE, cJ G hXB 10001 u.2.1, cI G hXC 10001 u.2.2.1, cI G hXF 10001 u.2.2.2.1, cI G hXY 10001 u.2.2.2.2.1, cI G hXS 32768 u.2.2.2.2.2]) A) args s 0 0 A) (F0 m 108 ls []) := by
  intro n
  induction n with
  | zero => intro mo_many aXB aXC aXF aXY aXS v1 v2 v4 v5 v7 v9 v10 H locs ls h _ _ _ _; exact h.elim
  | succ n ih =>
    intro mo_many aXB aXC aXF aXY aXS v1 v2 v4 v5 v7 v9 v10 H locs ls h hP hD hS hl
    unfold MO_spread_108 at h
    refine lv_iload X.1 X.2.1 dX6_spread_108 (lv_at hl 7 rfl) ?_
    refine lv_iconst (v := (4 : Int32)) X.1 X.2.1 dX6_spread_110 (by decide) ?_
    refine lv_icmp_ge (tgt := 287) X.1 X.2.1 dX6_spread_111 (by decide) (fun hc => ?_) (fun hc => ?_)
    · replace h := Eq.mp (if_pos hc) h
      refine lv_iinc (v := (v9 + (1 : Int32))) (lv' := [(9, .int (v9 + (1 : Int32))), (0, .ref hMO), (1, .int v1), (2, .long v2), (4, .int v4), (5, .long v5), (7, .long v7), (10, .int v10)]) X.1 X.2.1 dX6_spread_287 hl (k := 6) rfl rfl (by decide) rfl (fun ls hl => ?_)
      refine lv_goto (tgt := 98) X.1 X.2.1 dX6_spread_290 (by decide) ?_
      exact hk98 mo_many aXB aXC aXF aXY aXS v1 v2 v4 v5 v7 (v9 + (1 : Int32)) _ _ _ h hP hD hS (lv_sub hl [1, 2, 3, 4, 5, 6, 0] rfl)
    · replace h := Eq.mp (if_neg hc) h
      refine lv_lload X.1 X.2.1 dX6_spread_114 (lv_at hl 4 rfl) ?_
      refine lv_iload X.1 X.2.1 dX6_spread_116 (lv_at hl 6 rfl) ?_
      refine g_ci (wr := [cMO hMO mo_thrown mo_size hTM mo_isBoard mo_width mo_height mo_person mo_moves mo_pushes mo_floor mo_goals mo_boxes mo_newFloor mo_newGoals mo_newBoxes mo_newPerson mo_newWidth mo_kept hDO mo_many mo_taken mo_length hXB hXC hXF hXY hXS hXP hFA hLE, cJ G hXB 10001 aXB, cI G hXC 10001 aXC, cI G hXF 10001 aXF, cI G hXY 10001 aXY, cI G hXS 32768 aXS]) X [] [0, 1, 2, 3, 4, 5] (g_rS (As := [.long v5, .int v9]) (rest := []) X (c_MO_has l G v5 v9 _ h _) lk_X6_90 rfl rfl ⟨Nat.le_of_ble_eq_true rfl, Nat.le_of_ble_eq_true rfl⟩ hP hD hS [] rfl rfl rfl hl.1 rfl (Nat.le_of_ble_eq_true rfl) dX6_spread_118 ⟨Nat.le_of_ble_eq_true rfl, Nat.le_of_ble_eq_true rfl⟩) hP hD hS rfl rfl rfl (by decide) (fun r_1 u H locs h hP hD hS => ?_)
      try dsimp only at h
      replace hP := hP.sub (ws' := [cMO hMO mo_thrown mo_size hTM mo_isBoard mo_width mo_height mo_person mo_moves mo_pushes mo_floor mo_goals mo_boxes mo_newFloor mo_newGoals mo_newBoxes mo_newPerson mo_newWidth mo_kept hDO mo_many mo_taken mo_length hXB hXC hXF hXY hXS hXP hFA hLE, cJ G hXB 10001 aXB, cI G hXC 10001 aXC, cI G hXF 10001 aXF, cI G hXY 10001 aXY, cI G hXS 32768 aXS]) [0, 1, 2, 3, 4, 5] rfl
      replace hD := hD.sub (ws' := [cMO hMO mo_thrown mo_size hTM mo_isBoard mo_width mo_height mo_person mo_moves mo_pushes mo_floor mo_goals mo_boxes mo_newFloor mo_newGoals mo_newBoxes mo_newPerson mo_newWidth mo_kept hDO mo_many mo_taken mo_length hXB hXC hXF hXY hXS hXP hFA hLE, cJ G hXB 10001 aXB, cI G hXC 10001 aXC, cI G hXF 10001 aXF, cI G hXY 10001 aXY, cI G hXS 32768 aXS]) [0, 1, 2, 3, 4, 5] rfl rfl
      refine lv_if_eq (tgt := 287) X.1 X.2.1 dX6_spread_121 (by decide) (fun hc => ?_) (fun hc => ?_)
      · replace h := Eq.mp (if_pos hc) h
        refine lv_iinc (v := (v9 + (1 : Int32))) (lv' := [(9, .int (v9 + (1 : Int32))), (0, .ref hMO), (1, .int v1), (2, .long v2), (4, .int v4), (5, .long v5), (7, .long v7), (10, .int v10)]) X.1 X.2.1 dX6_spread_287 hl (k := 6) rfl rfl (by decide) rfl (fun ls hl => ?_)
        refine lv_goto (tgt := 98) X.1 X.2.1 dX6_spread_290 (by decide) ?_
        exact hk98 mo_many aXB aXC aXF aXY aXS v1 v2 v4 v5 v7 (v9 + (1 : Int32)) _ _ _ h hP hD hS (lv_sub hl [1, 2, 3, 4, 5, 6, 0] rfl)
      · replace h := Eq.mp (if_neg hc) h
        refine lv_aload_n X.1 X.2.1 dX6_spread_124 rfl (lv_at hl 0 rfl) ?_
        refine lv_iload X.1 X.2.1 dX6_spread_125 (lv_at hl 6 rfl) ?_
        refine lv_iload X.1 X.2.1 dX6_spread_127 (lv_at hl 7 rfl) ?_
        refine g_ci (wr := [cJ G hXB 10001 aXB, cI G hXC 10001 aXC, cI G hXF 10001 aXF, cI G hXY 10001 aXY, cI G hXS 32768 aXS]) X [0] [1, 2, 3, 4, 5] (g_rV (As := [.int v9, .int v10]) (rest := []) X (c_MO_beside l G hMO hTM hDO hXB hXC hXF hXY hXS hXP hFA hLE mo_thrown mo_size mo_isBoard mo_width mo_height mo_person mo_moves mo_pushes mo_floor mo_goals mo_boxes mo_newFloor mo_newGoals mo_newBoxes mo_newPerson mo_newWidth mo_kept mo_many mo_taken mo_length v9 v10 _ h _) lk_X6_112 rfl rfl ⟨Nat.le_of_ble_eq_true rfl, Nat.le_of_ble_eq_true rfl⟩ hP hD hS [0] rfl rfl 0 6 rfl rfl rfl hl.1 rfl (Nat.le_of_ble_eq_true rfl) dX6_spread_129 ⟨Nat.le_of_ble_eq_true rfl, Nat.le_of_ble_eq_true rfl⟩) hP hD hS rfl rfl rfl (by decide) (fun r_2 u H locs h hP hD hS => ?_)
        try dsimp only at h
        replace hP := hP.sub (ws' := [cMO hMO mo_thrown mo_size hTM mo_isBoard mo_width mo_height mo_person mo_moves mo_pushes mo_floor mo_goals mo_boxes mo_newFloor mo_newGoals mo_newBoxes mo_newPerson mo_newWidth mo_kept hDO mo_many mo_taken mo_length hXB hXC hXF hXY hXS hXP hFA hLE, cJ G hXB 10001 aXB, cI G hXC 10001 aXC, cI G hXF 10001 aXF, cI G hXY 10001 aXY, cI G hXS 32768 aXS]) [5, 0, 1, 2, 3, 4] rfl
        replace hD := hD.sub (ws' := [cMO hMO mo_thrown mo_size hTM mo_isBoard mo_width mo_height mo_person mo_moves mo_pushes mo_floor mo_goals mo_boxes mo_newFloor mo_newGoals mo_newBoxes mo_newPerson mo_newWidth mo_kept hDO mo_many mo_taken mo_length hXB hXC hXF hXY hXS hXP hFA hLE, cJ G hXB 10001 aXB, cI G hXC 10001 aXC, cI G hXF 10001 aXF, cI G hXY 10001 aXY, cI G hXS 32768 aXS]) [5, 0, 1, 2, 3, 4] rfl rfl
        refine lv_istore (lv' := [(11, .int r_2), (0, .ref hMO), (1, .int v1), (2, .long v2), (4, .int v4), (5, .long v5), (7, .long v7), (9, .int v9), (10, .int v10)]) X.1 X.2.1 dX6_spread_132 hl (by decide) rfl (fun ls hl => ?_)
        refine lv_lload X.1 X.2.1 dX6_spread_134 (lv_at hl 6 rfl) ?_
        refine lv_aload_n X.1 X.2.1 dX6_spread_136 rfl (lv_at hl 1 rfl) ?_
        refine lv_iload X.1 X.2.1 dX6_spread_137 (lv_at hl 7 rfl) ?_
        refine lv_aload_n X.1 X.2.1 dX6_spread_139 rfl (lv_at hl 1 rfl) ?_
        refine lv_iload X.1 X.2.1 dX6_spread_140 (lv_at hl 8 rfl) ?_
        refine g_ci (wr := [cJ G hXB 10001 aXB, cI G hXC 10001 aXC, cI G hXF 10001 aXF, cI G hXY 10001 aXY, cI G hXS 32768 aXS]) X [0] [1, 2, 3, 4, 5] (g_rV (As := [.int v10]) (rest := [.int v9, .ref hMO, .long v7]) X (c_MO_against l G hMO hTM hDO hXB hXC hXF hXY hXS hXP hFA hLE mo_thrown mo_size mo_isBoard mo_width mo_height mo_person mo_moves mo_pushes mo_floor mo_goals mo_boxes mo_newFloor mo_newGoals mo_newBoxes mo_newPerson mo_newWidth mo_kept mo_many mo_taken mo_length v10 _ h _) lk_X6_126 rfl rfl ⟨Nat.le_of_ble_eq_true rfl, Nat.le_of_ble_eq_true rfl⟩ hP hD hS [0] rfl rfl 0 6 rfl rfl rfl hl.1 rfl (Nat.le_of_ble_eq_true rfl) dX6_spread_142 ⟨Nat.le_of_ble_eq_true rfl, Nat.le_of_ble_eq_true rfl⟩) hP hD hS rfl rfl rfl (by decide) (fun r_3 u H locs h hP hD hS => ?_)
        try dsimp only at h
        replace hP := hP.sub (ws' := [cMO hMO mo_thrown mo_size hTM mo_isBoard mo_width mo_height mo_person mo_moves mo_pushes mo_floor mo_goals mo_boxes mo_newFloor mo_newGoals mo_newBoxes mo_newPerson mo_newWidth mo_kept hDO mo_many mo_taken mo_length hXB hXC hXF hXY hXS hXP hFA hLE, cJ G hXB 10001 aXB, cI G hXC 10001 aXC, cI G hXF 10001 aXF, cI G hXY 10001 aXY, cI G hXS 32768 aXS]) [5, 0, 1, 2, 3, 4] rfl
        replace hD := hD.sub (ws' := [cMO hMO mo_thrown mo_size hTM mo_isBoard mo_width mo_height mo_person mo_moves mo_pushes mo_floor mo_goals mo_boxes mo_newFloor mo_newGoals mo_newBoxes mo_newPerson mo_newWidth mo_kept hDO mo_many mo_taken mo_length hXB hXC hXF hXY hXS hXP hFA hLE, cJ G hXB 10001 aXB, cI G hXC 10001 aXC, cI G hXF 10001 aXF, cI G hXY 10001 aXY, cI G hXS 32768 aXS]) [5, 0, 1, 2, 3, 4] rfl rfl
        refine g_ci (wr := [cJ G hXB 10001 aXB, cI G hXC 10001 aXC, cI G hXF 10001 aXF, cI G hXY 10001 aXY, cI G hXS 32768 aXS]) X [0] [1, 2, 3, 4, 5] (g_rV (As := [.int v9, .int r_3]) (rest := [.long v7]) X (c_MO_beside l G hMO hTM hDO hXB hXC hXF hXY hXS hXP hFA hLE mo_thrown mo_size mo_isBoard mo_width mo_height mo_person mo_moves mo_pushes mo_floor mo_goals mo_boxes mo_newFloor mo_newGoals mo_newBoxes mo_newPerson mo_newWidth mo_kept mo_many mo_taken mo_length v9 r_3 _ h _) lk_X6_112 rfl rfl ⟨Nat.le_of_ble_eq_true rfl, Nat.le_of_ble_eq_true rfl⟩ hP hD hS [0] rfl rfl 0 6 rfl rfl rfl hl.1 rfl (Nat.le_of_ble_eq_true rfl) dX6_spread_145 ⟨Nat.le_of_ble_eq_true rfl, Nat.le_of_ble_eq_true rfl⟩) hP hD hS rfl rfl rfl (by decide) (fun r_4 u H locs h hP hD hS => ?_)
        try dsimp only at h
        replace hP := hP.sub (ws' := [cMO hMO mo_thrown mo_size hTM mo_isBoard mo_width mo_height mo_person mo_moves mo_pushes mo_floor mo_goals mo_boxes mo_newFloor mo_newGoals mo_newBoxes mo_newPerson mo_newWidth mo_kept hDO mo_many mo_taken mo_length hXB hXC hXF hXY hXS hXP hFA hLE, cJ G hXB 10001 aXB, cI G hXC 10001 aXC, cI G hXF 10001 aXF, cI G hXY 10001 aXY, cI G hXS 32768 aXS]) [5, 0, 1, 2, 3, 4] rfl
        replace hD := hD.sub (ws' := [cMO hMO mo_thrown mo_size hTM mo_isBoard mo_width mo_height mo_person mo_moves mo_pushes mo_floor mo_goals mo_boxes mo_newFloor mo_newGoals mo_newBoxes mo_newPerson mo_newWidth mo_kept hDO mo_many mo_taken mo_length hXB hXC hXF hXY hXS hXP hFA hLE, cJ G hXB 10001 aXB, cI G hXC 10001 aXC, cI G hXF 10001 aXF, cI G hXY 10001 aXY, cI G hXS 32768 aXS]) [5, 0, 1, 2, 3, 4] rfl rfl
        refine g_ci (wr := [cMO hMO mo_thrown mo_size hTM mo_isBoard mo_width mo_height mo_person mo_moves mo_pushes mo_floor mo_goals mo_boxes mo_newFloor mo_newGoals mo_newBoxes mo_newPerson mo_newWidth mo_kept hDO mo_many mo_taken mo_length hXB hXC hXF hXY hXS hXP hFA hLE, cJ G hXB 10001 aXB, cI G hXC 10001 aXC, cI G hXF 10001 aXF, cI G hXY 10001 aXY, cI G hXS 32768 aXS]) X [] [0, 1, 2, 3, 4, 5] (g_rS (As := [.long v7, .int r_4]) (rest := []) X (c_MO_has l G v7 r_4 _ h _) lk_X6_90 rfl rfl ⟨Nat.le_of_ble_eq_true rfl, Nat.le_of_ble_eq_true rfl⟩ hP hD hS [] rfl rfl rfl hl.1 rfl (Nat.le_of_ble_eq_true rfl) dX6_spread_148 ⟨Nat.le_of_ble_eq_true rfl, Nat.le_of_ble_eq_true rfl⟩) hP hD hS rfl rfl rfl (by decide) (fun r_5 u H locs h hP hD hS => ?_)
        try dsimp only at h
        replace hP := hP.sub (ws' := [cMO hMO mo_thrown mo_size hTM mo_isBoard mo_width mo_height mo_person mo_moves mo_pushes mo_floor mo_goals mo_boxes mo_newFloor mo_newGoals mo_newBoxes mo_newPerson mo_newWidth mo_kept hDO mo_many mo_taken mo_length hXB hXC hXF hXY hXS hXP hFA hLE, cJ G hXB 10001 aXB, cI G hXC 10001 aXC, cI G hXF 10001 aXF, cI G hXY 10001 aXY, cI G hXS 32768 aXS]) [0, 1, 2, 3, 4, 5] rfl
        replace hD := hD.sub (ws' := [cMO hMO mo_thrown mo_size hTM mo_isBoard mo_width mo_height mo_person mo_moves mo_pushes mo_floor mo_goals mo_boxes mo_newFloor mo_newGoals mo_newBoxes mo_newPerson mo_newWidth mo_kept hDO mo_many mo_taken mo_length hXB hXC hXF hXY hXS hXP hFA hLE, cJ G hXB 10001 aXB, cI G hXC 10001 aXC, cI G hXF 10001 aXF, cI G hXY 10001 aXY, cI G hXS 32768 aXS]) [0, 1, 2, 3, 4, 5] rfl rfl
        refine lv_if_eq (tgt := 281) X.1 X.2.1 dX6_spread_151 (by decide) (fun hc => ?_) (fun hc => ?_)
        · replace h := Eq.mp (if_pos hc) h
          refine lv_iinc (v := (v10 + (1 : Int32))) (lv' := [(10, .int (v10 + (1 : Int32))), (11, .int r_2), (0, .ref hMO), (1, .int v1), (2, .long v2), (4, .int v4), (5, .long v5), (7, .long v7), (9, .int v9)]) X.1 X.2.1 dX6_spread_281 hl (k := 8) rfl rfl (by decide) rfl (fun ls hl => ?_)
          refine lv_goto (tgt := 108) X.1 X.2.1 dX6_spread_284 (by decide) ?_
          exact ih mo_many aXB aXC aXF aXY aXS v1 v2 v4 v5 v7 v9 (v10 + (1 : Int32)) _ _ _ h hP hD hS (lv_sub hl [2, 3, 4, 5, 6, 7, 8, 0] rfl)
        · replace h := Eq.mp (if_neg hc) h
          refine lv_aload_n X.1 X.2.1 dX6_spread_154 rfl (lv_at hl 1 rfl) ?_
          refine g_get X hP 0 6 9 (v := .long mo_floor) rfl rfl inX6 (by decide) fl_X6_87 rfl dX6_spread_155 ?_
          refine lv_iload X.1 X.2.1 dX6_spread_158 (lv_at hl 0 rfl) ?_
          refine g_ci (wr := [cMO hMO mo_thrown mo_size hTM mo_isBoard mo_width mo_height mo_person mo_moves mo_pushes mo_floor mo_goals mo_boxes mo_newFloor mo_newGoals mo_newBoxes mo_newPerson mo_newWidth mo_kept hDO mo_many mo_taken mo_length hXB hXC hXF hXY hXS hXP hFA hLE, cJ G hXB 10001 aXB, cI G hXC 10001 aXC, cI G hXF 10001 aXF, cI G hXY 10001 aXY, cI G hXS 32768 aXS]) X [] [0, 1, 2, 3, 4, 5] (g_rS (As := [.long mo_floor, .int r_2]) (rest := []) X (c_MO_has l G mo_floor r_2 _ h _) lk_X6_90 rfl rfl ⟨Nat.le_of_ble_eq_true rfl, Nat.le_of_ble_eq_true rfl⟩ hP hD hS [] rfl rfl rfl hl.1 rfl (Nat.le_of_ble_eq_true rfl) dX6_spread_160 ⟨Nat.le_of_ble_eq_true rfl, Nat.le_of_ble_eq_true rfl⟩) hP hD hS rfl rfl rfl (by decide) (fun r_6 u H locs h hP hD hS => ?_)
          try dsimp only at h
          replace hP := hP.sub (ws' := [cMO hMO mo_thrown mo_size hTM mo_isBoard mo_width mo_height mo_person mo_moves mo_pushes mo_floor mo_goals mo_boxes mo_newFloor mo_newGoals mo_newBoxes mo_newPerson mo_newWidth mo_kept hDO mo_many mo_taken mo_length hXB hXC hXF hXY hXS hXP hFA hLE, cJ G hXB 10001 aXB, cI G hXC 10001 aXC, cI G hXF 10001 aXF, cI G hXY 10001 aXY, cI G hXS 32768 aXS]) [0, 1, 2, 3, 4, 5] rfl
          replace hD := hD.sub (ws' := [cMO hMO mo_thrown mo_size hTM mo_isBoard mo_width mo_height mo_person mo_moves mo_pushes mo_floor mo_goals mo_boxes mo_newFloor mo_newGoals mo_newBoxes mo_newPerson mo_newWidth mo_kept hDO mo_many mo_taken mo_length hXB hXC hXF hXY hXS hXP hFA hLE, cJ G hXB 10001 aXB, cI G hXC 10001 aXC, cI G hXF 10001 aXF, cI G hXY 10001 aXY, cI G hXS 32768 aXS]) [0, 1, 2, 3, 4, 5] rfl rfl
          refine lv_if_eq (tgt := 281) X.1 X.2.1 dX6_spread_163 (by decide) (fun hc => ?_) (fun hc => ?_)
          · replace h := Eq.mp (if_pos hc) h
            refine lv_iinc (v := (v10 + (1 : Int32))) (lv' := [(10, .int (v10 + (1 : Int32))), (11, .int r_2), (0, .ref hMO), (1, .int v1), (2, .long v2), (4, .int v4), (5, .long v5), (7, .long v7), (9, .int v9)]) X.1 X.2.1 dX6_spread_281 hl (k := 8) rfl rfl (by decide) rfl (fun ls hl => ?_)
            refine lv_goto (tgt := 108) X.1 X.2.1 dX6_spread_284 (by decide) ?_
            exact ih mo_many aXB aXC aXF aXY aXS v1 v2 v4 v5 v7 v9 (v10 + (1 : Int32)) _ _ _ h hP hD hS (lv_sub hl [2, 3, 4, 5, 6, 7, 8, 0] rfl)
          · replace h := Eq.mp (if_neg hc) h
            refine lv_lload X.1 X.2.1 dX6_spread_166 (lv_at hl 5 rfl) ?_
            refine lv_iload X.1 X.2.1 dX6_spread_168 (lv_at hl 0 rfl) ?_
            refine g_ci (wr := [cMO hMO mo_thrown mo_size hTM mo_isBoard mo_width mo_height mo_person mo_moves mo_pushes mo_floor mo_goals mo_boxes mo_newFloor mo_newGoals mo_newBoxes mo_newPerson mo_newWidth mo_kept hDO mo_many mo_taken mo_length hXB hXC hXF hXY hXS hXP hFA hLE, cJ G hXB 10001 aXB, cI G hXC 10001 aXC, cI G hXF 10001 aXF, cI G hXY 10001 aXY, cI G hXS 32768 aXS]) X [] [0, 1, 2, 3, 4, 5] (g_rS (As := [.long v5, .int r_2]) (rest := []) X (c_MO_has l G v5 r_2 _ h _) lk_X6_90 rfl rfl ⟨Nat.le_of_ble_eq_true rfl, Nat.le_of_ble_eq_true rfl⟩ hP hD hS [] rfl rfl rfl hl.1 rfl (Nat.le_of_ble_eq_true rfl) dX6_spread_170 ⟨Nat.le_of_ble_eq_true rfl, Nat.le_of_ble_eq_true rfl⟩) hP hD hS rfl rfl rfl (by decide) (fun r_7 u H locs h hP hD hS => ?_)
            try dsimp only at h
            replace hP := hP.sub (ws' := [cMO hMO mo_thrown mo_size hTM mo_isBoard mo_width mo_height mo_person mo_moves mo_pushes mo_floor mo_goals mo_boxes mo_newFloor mo_newGoals mo_newBoxes mo_newPerson mo_newWidth mo_kept hDO mo_many mo_taken mo_length hXB hXC hXF hXY hXS hXP hFA hLE, cJ G hXB 10001 aXB, cI G hXC 10001 aXC, cI G hXF 10001 aXF, cI G hXY 10001 aXY, cI G hXS 32768 aXS]) [0, 1, 2, 3, 4, 5] rfl
            replace hD := hD.sub (ws' := [cMO hMO mo_thrown mo_size hTM mo_isBoard mo_width mo_height mo_person mo_moves mo_pushes mo_floor mo_goals mo_boxes mo_newFloor mo_newGoals mo_newBoxes mo_newPerson mo_newWidth mo_kept hDO mo_many mo_taken mo_length hXB hXC hXF hXY hXS hXP hFA hLE, cJ G hXB 10001 aXB, cI G hXC 10001 aXC, cI G hXF 10001 aXF, cI G hXY 10001 aXY, cI G hXS 32768 aXS]) [0, 1, 2, 3, 4, 5] rfl rfl
            refine lv_if_ne (tgt := 281) X.1 X.2.1 dX6_spread_173 (by decide) (fun hc => ?_) (fun hc => ?_)
            · replace h := Eq.mp (if_neg hc) h
              refine lv_iinc (v := (v10 + (1 : Int32))) (lv' := [(10, .int (v10 + (1 : Int32))), (11, .int r_2), (0, .ref hMO), (1, .int v1), (2, .long v2), (4, .int v4), (5, .long v5), (7, .long v7), (9, .int v9)]) X.1 X.2.1 dX6_spread_281 hl (k := 8) rfl rfl (by decide) rfl (fun ls hl => ?_)
              refine lv_goto (tgt := 108) X.1 X.2.1 dX6_spread_284 (by decide) ?_
              exact ih mo_many aXB aXC aXF aXY aXS v1 v2 v4 v5 v7 v9 (v10 + (1 : Int32)) _ _ _ h hP hD hS (lv_sub hl [2, 3, 4, 5, 6, 7, 8, 0] rfl)
            · replace h := Eq.mp (if_pos hc) h
              refine lv_lload_n X.1 X.2.1 dX6_spread_176 rfl (lv_at hl 3 rfl) ?_
              refine lv_iload X.1 X.2.1 dX6_spread_177 (lv_at hl 0 rfl) ?_
              refine g_ci (wr := [cMO hMO mo_thrown mo_size hTM mo_isBoard mo_width mo_height mo_person mo_moves mo_pushes mo_floor mo_goals mo_boxes mo_newFloor mo_newGoals mo_newBoxes mo_newPerson mo_newWidth mo_kept hDO mo_many mo_taken mo_length hXB hXC hXF hXY hXS hXP hFA hLE, cJ G hXB 10001 aXB, cI G hXC 10001 aXC, cI G hXF 10001 aXF, cI G hXY 10001 aXY, cI G hXS 32768 aXS]) X [] [0, 1, 2, 3, 4, 5] (g_rS (As := [.long v2, .int r_2]) (rest := []) X (c_MO_has l G v2 r_2 _ h _) lk_X6_90 rfl rfl ⟨Nat.le_of_ble_eq_true rfl, Nat.le_of_ble_eq_true rfl⟩ hP hD hS [] rfl rfl rfl hl.1 rfl (Nat.le_of_ble_eq_true rfl) dX6_spread_179 ⟨Nat.le_of_ble_eq_true rfl, Nat.le_of_ble_eq_true rfl⟩) hP hD hS rfl rfl rfl (by decide) (fun r_8 u H locs h hP hD hS => ?_)
              try dsimp only at h
              replace hP := hP.sub (ws' := [cMO hMO mo_thrown mo_size hTM mo_isBoard mo_width mo_height mo_person mo_moves mo_pushes mo_floor mo_goals mo_boxes mo_newFloor mo_newGoals mo_newBoxes mo_newPerson mo_newWidth mo_kept hDO mo_many mo_taken mo_length hXB hXC hXF hXY hXS hXP hFA hLE, cJ G hXB 10001 aXB, cI G hXC 10001 aXC, cI G hXF 10001 aXF, cI G hXY 10001 aXY, cI G hXS 32768 aXS]) [0, 1, 2, 3, 4, 5] rfl
              replace hD := hD.sub (ws' := [cMO hMO mo_thrown mo_size hTM mo_isBoard mo_width mo_height mo_person mo_moves mo_pushes mo_floor mo_goals mo_boxes mo_newFloor mo_newGoals mo_newBoxes mo_newPerson mo_newWidth mo_kept hDO mo_many mo_taken mo_length hXB hXC hXF hXY hXS hXP hFA hLE, cJ G hXB 10001 aXB, cI G hXC 10001 aXC, cI G hXF 10001 aXF, cI G hXY 10001 aXY, cI G hXS 32768 aXS]) [0, 1, 2, 3, 4, 5] rfl rfl
              refine lv_if_ne (tgt := 188) X.1 X.2.1 dX6_spread_182 (by decide) (fun hc => ?_) (fun hc => ?_)
              · replace h := Eq.mp (if_neg hc) h
                refine lv_lload X.1 X.2.1 dX6_spread_188 (lv_at hl 5 rfl) ?_
                refine lv_lconst (v := (1 : Int64)) X.1 X.2.1 dX6_spread_190 (by decide) ?_
                refine lv_iload X.1 X.2.1 dX6_spread_191 (lv_at hl 7 rfl) ?_
                refine lv_lshl X.1 X.2.1 dX6_spread_193 rfl ?_
                refine lv_ldc2 (v := (-1 : Int64)) X.1 X.2.1 X.2.2.2.1 (X.2.2.2.2.1 _ cn_X6_116) dX6_spread_194 ?_
                refine lv_lxor X.1 X.2.1 dX6_spread_197 ?_
                refine lv_land X.1 X.2.1 dX6_spread_198 ?_
                refine lv_lconst (v := (1 : Int64)) X.1 X.2.1 dX6_spread_199 (by decide) ?_
                refine lv_iload X.1 X.2.1 dX6_spread_200 (lv_at hl 0 rfl) ?_
                refine lv_lshl X.1 X.2.1 dX6_spread_202 rfl ?_
                refine lv_lor X.1 X.2.1 dX6_spread_203 ?_
                refine lv_topl (fun v12_9 e_v12_9 => ?_)
                replace h := h v12_9 e_v12_9
                refine lv_lstore (lv' := [(12, .long v12_9), (11, .int r_2), (0, .ref hMO), (1, .int v1), (2, .long v2), (4, .int v4), (5, .long v5), (7, .long v7), (9, .int v9), (10, .int v10)]) X.1 X.2.1 dX6_spread_204 hl (by decide) rfl (fun ls hl => ?_)
                refine lv_aload_n X.1 X.2.1 dX6_spread_206 rfl (lv_at hl 2 rfl) ?_
                refine lv_lload X.1 X.2.1 dX6_spread_207 (lv_at hl 0 rfl) ?_
                refine lv_lload_n X.1 X.2.1 dX6_spread_209 rfl (lv_at hl 4 rfl) ?_
                refine g_cl (wr := [cJ G hXB 10001 aXB, cI G hXC 10001 aXC, cI G hXF 10001 aXF, cI G hXY 10001 aXY, cI G hXS 32768 aXS]) X [0] [1, 2, 3, 4, 5] (g_rV (As := [.long v12_9, .long v2]) (rest := []) X (c_MO_fastOf l G hMO hTM hDO hXB hXC hXF hXY hXS hXP hFA hLE mo_thrown mo_size mo_isBoard mo_width mo_height mo_person mo_moves mo_pushes mo_floor mo_goals mo_boxes mo_newFloor mo_newGoals mo_newBoxes mo_newPerson mo_newWidth mo_kept mo_many mo_taken mo_length v12_9 v2 _ h _) lk_X6_151 rfl rfl ⟨Nat.le_of_ble_eq_true rfl, Nat.le_of_ble_eq_true rfl⟩ hP hD hS [0] rfl rfl 0 6 rfl rfl rfl hl.1 rfl (Nat.le_of_ble_eq_true rfl) dX6_spread_210 ⟨Nat.le_of_ble_eq_true rfl, Nat.le_of_ble_eq_true rfl⟩) hP hD hS rfl rfl rfl (by decide) (fun r_10 u H locs h hP hD hS => ?_)
                try dsimp only at h
                replace hP := hP.sub (ws' := [cMO hMO mo_thrown mo_size hTM mo_isBoard mo_width mo_height mo_person mo_moves mo_pushes mo_floor mo_goals mo_boxes mo_newFloor mo_newGoals mo_newBoxes mo_newPerson mo_newWidth mo_kept hDO mo_many mo_taken mo_length hXB hXC hXF hXY hXS hXP hFA hLE, cJ G hXB 10001 aXB, cI G hXC 10001 aXC, cI G hXF 10001 aXF, cI G hXY 10001 aXY, cI G hXS 32768 aXS]) [5, 0, 1, 2, 3, 4] rfl
                replace hD := hD.sub (ws' := [cMO hMO mo_thrown mo_size hTM mo_isBoard mo_width mo_height mo_person mo_moves mo_pushes mo_floor mo_goals mo_boxes mo_newFloor mo_newGoals mo_newBoxes mo_newPerson mo_newWidth mo_kept hDO mo_many mo_taken mo_length hXB hXC hXF hXY hXS hXP hFA hLE, cJ G hXB 10001 aXB, cI G hXC 10001 aXC, cI G hXF 10001 aXF, cI G hXY 10001 aXY, cI G hXS 32768 aXS]) [5, 0, 1, 2, 3, 4] rfl rfl
                refine lv_aload_n X.1 X.2.1 dX6_spread_213 rfl (lv_at hl 2 rfl) ?_
                refine g_get X hP 0 6 10 (v := .long mo_goals) rfl rfl inX6 (by decide) fl_X6_94 rfl dX6_spread_214 ?_
                refine lv_ldc2 (v := (-1 : Int64)) X.1 X.2.1 X.2.2.2.1 (X.2.2.2.2.1 _ cn_X6_116) dX6_spread_217 ?_
                refine lv_lxor X.1 X.2.1 dX6_spread_220 ?_
                refine lv_land X.1 X.2.1 dX6_spread_221 ?_
                refine lv_lconst (v := (0 : Int64)) X.1 X.2.1 dX6_spread_222 (by decide) ?_
                refine g_lcmp_ne (tgt := 281) X dX6_spread_223 dX6_spread_224 (by decide) (fun hc => ?_) (fun hc => ?_)
                · replace h := Eq.mp (if_neg hc) h
                  refine lv_iinc (v := (v10 + (1 : Int32))) (lv' := [(10, .int (v10 + (1 : Int32))), (12, .long v12_9), (11, .int r_2), (0, .ref hMO), (1, .int v1), (2, .long v2), (4, .int v4), (5, .long v5), (7, .long v7), (9, .int v9)]) X.1 X.2.1 dX6_spread_281 hl (k := 9) rfl rfl (by decide) rfl (fun ls hl => ?_)
                  refine lv_goto (tgt := 108) X.1 X.2.1 dX6_spread_284 (by decide) ?_
                  exact ih mo_many aXB aXC aXF aXY aXS v1 v2 v4 v5 v7 v9 (v10 + (1 : Int32)) _ _ _ h hP hD hS (lv_sub hl [3, 4, 5, 6, 7, 8, 9, 0] rfl)
                · replace h := Eq.mp (if_pos hc) h
                  refine lv_aload_n X.1 X.2.1 dX6_spread_227 rfl (lv_at hl 2 rfl) ?_
                  refine lv_lload X.1 X.2.1 dX6_spread_228 (lv_at hl 0 rfl) ?_
                  refine lv_iload X.1 X.2.1 dX6_spread_230 (lv_at hl 8 rfl) ?_
                  refine lv_iload X.1 X.2.1 dX6_spread_232 (lv_at hl 5 rfl) ?_
                  refine lv_iconst (v := (4 : Int32)) X.1 X.2.1 dX6_spread_234 (by decide) ?_
                  refine lv_aload_n X.1 X.2.1 dX6_spread_235 rfl (lv_at hl 2 rfl) ?_
                  refine lv_iload X.1 X.2.1 dX6_spread_236 (lv_at hl 8 rfl) ?_
                  refine g_ci (wr := [cJ G hXB 10001 aXB, cI G hXC 10001 aXC, cI G hXF 10001 aXF, cI G hXY 10001 aXY, cI G hXS 32768 aXS]) X [0] [1, 2, 3, 4, 5] (g_rV (As := [.int v9]) (rest := [.int (4 : Int32), .int v4, .int v9, .long v12_9, .ref hMO]) X (c_MO_number l G hMO hTM hDO hXB hXC hXF hXY hXS hXP hFA hLE mo_thrown mo_size mo_isBoard mo_width mo_height mo_person mo_moves mo_pushes mo_floor mo_goals mo_boxes mo_newFloor mo_newGoals mo_newBoxes mo_newPerson mo_newWidth mo_kept mo_many mo_taken mo_length v9 _ h _) lk_X6_132 rfl rfl ⟨Nat.le_of_ble_eq_true rfl, Nat.le_of_ble_eq_true rfl⟩ hP hD hS [0] rfl rfl 0 6 rfl rfl rfl hl.1 rfl (Nat.le_of_ble_eq_true rfl) dX6_spread_238 ⟨Nat.le_of_ble_eq_true rfl, Nat.le_of_ble_eq_true rfl⟩) hP hD hS rfl rfl rfl (by decide) (fun r_11 u H locs h hP hD hS => ?_)
                  try dsimp only at h
                  replace hP := hP.sub (ws' := [cMO hMO mo_thrown mo_size hTM mo_isBoard mo_width mo_height mo_person mo_moves mo_pushes mo_floor mo_goals mo_boxes mo_newFloor mo_newGoals mo_newBoxes mo_newPerson mo_newWidth mo_kept hDO mo_many mo_taken mo_length hXB hXC hXF hXY hXS hXP hFA hLE, cJ G hXB 10001 aXB, cI G hXC 10001 aXC, cI G hXF 10001 aXF, cI G hXY 10001 aXY, cI G hXS 32768 aXS]) [5, 0, 1, 2, 3, 4] rfl
                  replace hD := hD.sub (ws' := [cMO hMO mo_thrown mo_size hTM mo_isBoard mo_width mo_height mo_person mo_moves mo_pushes mo_floor mo_goals mo_boxes mo_newFloor mo_newGoals mo_newBoxes mo_newPerson mo_newWidth mo_kept hDO mo_many mo_taken mo_length hXB hXC hXF hXY hXS hXP hFA hLE, cJ G hXB 10001 aXB, cI G hXC 10001 aXC, cI G hXF 10001 aXF, cI G hXY 10001 aXY, cI G hXS 32768 aXS]) [5, 0, 1, 2, 3, 4] rfl rfl
                  refine lv_imul X.1 X.2.1 dX6_spread_241 ?_
                  refine lv_iload X.1 X.2.1 dX6_spread_242 (lv_at hl 9 rfl) ?_
                  refine lv_iadd X.1 X.2.1 dX6_spread_244 ?_
                  refine g_ci (wr := []) X [0, 1, 2, 3, 4, 5] [] (g_rV (As := [.long v12_9, .int v9, .int v4, .int (((4 : Int32) * r_11) + v10)]) (rest := []) X (c_MO_isNew l G hMO hTM hDO hXB hXC hXF hXY hXS hXP hFA hLE mo_thrown mo_size mo_isBoard mo_width mo_height mo_person mo_moves mo_pushes mo_floor mo_goals mo_boxes mo_newFloor mo_newGoals mo_newBoxes mo_newPerson mo_newWidth mo_kept mo_many mo_taken mo_length aXB aXC aXF aXY aXS v12_9 v9 v4 (((4 : Int32) * r_11) + v10) _ h _) lk_X6_176 rfl rfl ⟨Nat.le_of_ble_eq_true rfl, Nat.le_of_ble_eq_true rfl⟩ hP hD hS [0, 1, 2, 3, 4, 5] rfl rfl 0 6 rfl rfl rfl hl.1 rfl (Nat.le_of_ble_eq_true rfl) dX6_spread_245 ⟨Nat.le_of_ble_eq_true rfl, Nat.le_of_ble_eq_true rfl⟩) hP hD hS rfl rfl rfl (by decide) (fun r_12 u H locs h hP hD hS => ?_)
                  obtain ⟨mo_many_13, aXB_14, aXC_15, aXF_16, aXY_17, aXS_18⟩ := u
                  try dsimp only at h
                  replace hP := hP.sub (ws' := [cMO hMO mo_thrown mo_size hTM mo_isBoard mo_width mo_height mo_person mo_moves mo_pushes mo_floor mo_goals mo_boxes mo_newFloor mo_newGoals mo_newBoxes mo_newPerson mo_newWidth mo_kept hDO mo_many_13 mo_taken mo_length hXB hXC hXF hXY hXS hXP hFA hLE, cJ G hXB 10001 aXB_14, cI G hXC 10001 aXC_15, cI G hXF 10001 aXF_16, cI G hXY 10001 aXY_17, cI G hXS 32768 aXS_18]) [0, 1, 2, 3, 4, 5] rfl
                  replace hD := hD.sub (ws' := [cMO hMO mo_thrown mo_size hTM mo_isBoard mo_width mo_height mo_person mo_moves mo_pushes mo_floor mo_goals mo_boxes mo_newFloor mo_newGoals mo_newBoxes mo_newPerson mo_newWidth mo_kept hDO mo_many_13 mo_taken mo_length hXB hXC hXF hXY hXS hXP hFA hLE, cJ G hXB 10001 aXB_14, cI G hXC 10001 aXC_15, cI G hXF 10001 aXF_16, cI G hXY 10001 aXY_17, cI G hXS 32768 aXS_18]) [0, 1, 2, 3, 4, 5] rfl rfl
                  refine lv_if_ne (tgt := 254) X.1 X.2.1 dX6_spread_248 (by decide) (fun hc => ?_) (fun hc => ?_)
                  · replace h := Eq.mp (if_neg hc) h
                    refine lv_aload_n X.1 X.2.1 dX6_spread_254 rfl (lv_at hl 2 rfl) ?_
                    refine g_get X hP 0 6 19 (v := .int mo_many_13) rfl rfl inX6 (by decide) fl_X6_173 rfl dX6_spread_255 ?_
                    refine lv_iload_n X.1 X.2.1 dX6_spread_258 rfl (lv_at hl 3 rfl) ?_
                    refine lv_icmp_le (tgt := 265) X.1 X.2.1 dX6_spread_259 (by decide) (fun hc => ?_) (fun hc => ?_)
                    · replace h := Eq.mp (if_pos hc) h
                      refine lv_aload_n X.1 X.2.1 dX6_spread_265 rfl (lv_at hl 2 rfl) ?_
                      refine lv_lload X.1 X.2.1 dX6_spread_266 (lv_at hl 0 rfl) ?_
                      refine g_ci (wr := [cJ G hXB 10001 aXB_14, cI G hXC 10001 aXC_15, cI G hXF 10001 aXF_16, cI G hXY 10001 aXY_17, cI G hXS 32768 aXS_18]) X [0] [1, 2, 3, 4, 5] (g_rV (As := [.long v12_9]) (rest := []) X (c_MO_isDone l G hMO hTM hDO hXB hXC hXF hXY hXS hXP hFA hLE mo_thrown mo_size mo_isBoard mo_width mo_height mo_person mo_moves mo_pushes mo_floor mo_goals mo_boxes mo_newFloor mo_newGoals mo_newBoxes mo_newPerson mo_newWidth mo_kept mo_many_13 mo_taken mo_length v12_9 _ h _) lk_X6_135 rfl rfl ⟨Nat.le_of_ble_eq_true rfl, Nat.le_of_ble_eq_true rfl⟩ hP hD hS [0] rfl rfl 0 6 rfl rfl rfl hl.1 rfl (Nat.le_of_ble_eq_true rfl) dX6_spread_268 ⟨Nat.le_of_ble_eq_true rfl, Nat.le_of_ble_eq_true rfl⟩) hP hD hS rfl rfl rfl (by decide) (fun r_19 u H locs h hP hD hS => ?_)
                      try dsimp only at h
                      replace hP := hP.sub (ws' := [cMO hMO mo_thrown mo_size hTM mo_isBoard mo_width mo_height mo_person mo_moves mo_pushes mo_floor mo_goals mo_boxes mo_newFloor mo_newGoals mo_newBoxes mo_newPerson mo_newWidth mo_kept hDO mo_many_13 mo_taken mo_length hXB hXC hXF hXY hXS hXP hFA hLE, cJ G hXB 10001 aXB_14, cI G hXC 10001 aXC_15, cI G hXF 10001 aXF_16, cI G hXY 10001 aXY_17, cI G hXS 32768 aXS_18]) [5, 0, 1, 2, 3, 4] rfl
                      replace hD := hD.sub (ws' := [cMO hMO mo_thrown mo_size hTM mo_isBoard mo_width mo_height mo_person mo_moves mo_pushes mo_floor mo_goals mo_boxes mo_newFloor mo_newGoals mo_newBoxes mo_newPerson mo_newWidth mo_kept hDO mo_many_13 mo_taken mo_length hXB hXC hXF hXY hXS hXP hFA hLE, cJ G hXB 10001 aXB_14, cI G hXC 10001 aXC_15, cI G hXF 10001 aXF_16, cI G hXY 10001 aXY_17, cI G hXS 32768 aXS_18]) [5, 0, 1, 2, 3, 4] rfl rfl
                      refine lv_if_eq (tgt := 281) X.1 X.2.1 dX6_spread_271 (by decide) (fun hc => ?_) (fun hc => ?_)
                      · replace h := Eq.mp (if_pos hc) h
                        refine lv_iinc (v := (v10 + (1 : Int32))) (lv' := [(10, .int (v10 + (1 : Int32))), (12, .long v12_9), (11, .int r_2), (0, .ref hMO), (1, .int v1), (2, .long v2), (4, .int v4), (5, .long v5), (7, .long v7), (9, .int v9)]) X.1 X.2.1 dX6_spread_281 hl (k := 9) rfl rfl (by decide) rfl (fun ls hl => ?_)
                        refine lv_goto (tgt := 108) X.1 X.2.1 dX6_spread_284 (by decide) ?_
                        exact ih mo_many_13 aXB_14 aXC_15 aXF_16 aXY_17 aXS_18 v1 v2 v4 v5 v7 v9 (v10 + (1 : Int32)) _ _ _ h hP hD hS (lv_sub hl [3, 4, 5, 6, 7, 8, 9, 0] rfl)
                      · replace h := Eq.mp (if_neg hc) h
                        refine lv_aload_n X.1 X.2.1 dX6_spread_274 rfl (lv_at hl 2 rfl) ?_
                        refine g_get X hP 0 6 19 (v := .int mo_many_13) rfl rfl inX6 (by decide) fl_X6_173 rfl dX6_spread_275 ?_
                        refine lv_iconst (v := (1 : Int32)) X.1 X.2.1 dX6_spread_278 (by decide) ?_
                        refine lv_isub X.1 X.2.1 dX6_spread_279 ?_
                        exact g_iret X (mo_many_13, aXB_14, aXC_15, aXF_16, aXY_17, aXS_18) h hP hD hS dX6_spread_280
                    · replace h := Eq.mp (if_neg hc) h
                      refine lv_bipush (v := (-2 : Int32)) X.1 X.2.1 dX6_spread_262 (by decide) ?_
                      exact g_iret X (mo_many_13, aXB_14, aXC_15, aXF_16, aXY_17, aXS_18) h hP hD hS dX6_spread_264
                  · replace h := Eq.mp (if_pos hc) h
                    refine lv_goto (tgt := 281) X.1 X.2.1 dX6_spread_251 (by decide) ?_
                    refine lv_iinc (v := (v10 + (1 : Int32))) (lv' := [(10, .int (v10 + (1 : Int32))), (12, .long v12_9), (11, .int r_2), (0, .ref hMO), (1, .int v1), (2, .long v2), (4, .int v4), (5, .long v5), (7, .long v7), (9, .int v9)]) X.1 X.2.1 dX6_spread_281 hl (k := 9) rfl rfl (by decide) rfl (fun ls hl => ?_)
                    refine lv_goto (tgt := 108) X.1 X.2.1 dX6_spread_284 (by decide) ?_
                    exact ih mo_many_13 aXB_14 aXC_15 aXF_16 aXY_17 aXS_18 v1 v2 v4 v5 v7 v9 (v10 + (1 : Int32)) _ _ _ h hP hD hS (lv_sub hl [3, 4, 5, 6, 7, 8, 9, 0] rfl)
              · replace h := Eq.mp (if_pos hc) h
                refine lv_goto (tgt := 281) X.1 X.2.1 dX6_spread_185 (by decide) ?_
                refine lv_iinc (v := (v10 + (1 : Int32))) (lv' := [(10, .int (v10 + (1 : Int32))), (11, .int r_2), (0, .ref hMO), (1, .int v1), (2, .long v2), (4, .int v4), (5, .long v5), (7, .long v7), (9, .int v9)]) X.1 X.2.1 dX6_spread_281 hl (k := 8) rfl rfl (by decide) rfl (fun ls hl => ?_)
                refine lv_goto (tgt := 108) X.1 X.2.1 dX6_spread_284 (by decide) ?_
                exact ih mo_many aXB aXC aXF aXY aXS v1 v2 v4 v5 v7 v9 (v10 + (1 : Int32)) _ _ _ h hP hD hS (lv_sub hl [2, 3, 4, 5, 6, 7, 8, 0] rfl)
set_option maxHeartbeats 4000000 in
set_option maxRecDepth 100000 in
theorem s_MO_spread_98 {p : Program} {l : Launch} {e : Env} {s : State} {m : MethodId} {args : Array Value} {below : List Frame} {meth : Method} {c : Code} {G : gEnv} {A : Nat → Prop} {hMO : Nat} {hTM : Nat} {hDO : Nat} {hXB : Nat} {hXC : Nat} {hXF : Nat} {hXY : Nat} {hXS : Nat} {hXP : Nat} {hFA : Nat} {hLE : Nat} {mo_thrown : Int32} {mo_size : Int32} {mo_isBoard : Int32} {mo_moves : Int32} {mo_pushes : Int32} {mo_newFloor : Int64} {mo_newGoals : Int64} {mo_newBoxes : Int64} {mo_newPerson : Int32} {mo_newWidth : Int32} {mo_kept : Int32} {mo_taken : Int32} {mo_length : Int32} {mo_width : Int32} {mo_height : Int32} {mo_person : Int32} {mo_floor : Int64} {mo_goals : Int64} {mo_boxes : Int64} {k62 : Int32 → (Nat → Int64) → (Nat → Int32) → (Nat → Int32) → (Nat → Int32) → (Nat → Int32) → Int32 → Int64 → Int32 → Prop} {post : Int32 → Int32 → (Nat → Int64) → (Nat → Int32) → (Nat → Int32) → (Nat → Int32) → (Nat → Int32) → Prop} (X : gX p m meth c cX6_spread 14 RX6 (some .int) s args G A) (hk62 : ∀ (mo_many' : Int32) (aXB' : (Nat → Int64)) (aXC' : (Nat → Int32)) (aXF' : (Nat → Int32)) (aXY' : (Nat → Int32)) (aXS' : (Nat → Int32)) (v1' : Int32) (v2' : Int64) (v4' : Int32) (H : Heap) (locs : List Loc) (ls : Array Slot), k62 mo_many' aXB' aXC' aXF' aXY' aXS' v1' v2' v4' → va_P G.1 gCl [cMO hMO mo_thrown mo_size hTM mo_isBoard mo_width mo_height mo_person mo_moves mo_pushes mo_floor mo_goals mo_boxes mo_newFloor mo_newGoals mo_newBoxes mo_newPerson mo_newWidth mo_kept hDO mo_many' mo_taken mo_length hXB hXC hXF hXY hXS hXP hFA hLE, cJ G hXB 10001 aXB', cI G hXC 10001 aXC', cI G hXF 10001 aXF', cI G hXY 10001 aXY', cI G hXS 32768 aXS'] H → va_D A [cMO hMO mo_thrown mo_size hTM mo_isBoard mo_width mo_height mo_person mo_moves mo_pushes mo_floor mo_goals mo_boxes mo_newFloor mo_newGoals mo_newBoxes mo_newPerson mo_newWidth mo_kept hDO mo_many' mo_taken mo_length hXB hXC hXF hXY hXS hXP hFA hLE, cJ G hXB 10001 aXB', cI G hXC 10001 aXC', cI G hXF 10001 aXF', cI G hXY 10001 aXY', cI G hXS 32768 aXS'] → va_S A s.heap H locs → lv_has ls 14 [(0, .ref hMO), (1, .int v1'), (2, .long v2'), (4, .int v4')] → W p l e rm_MO_spread s m args below meth c H locs 0 0 (MQ below (gQi G (fun (r : Int32) (u : Int32 × (Nat → Int64) × (Nat → Int32) × (Nat → Int32) × (Nat → Int32) × (Nat → Int32)) => post r u.1 u.2.1 u.2.2.1 u.2.2.2.1 u.2.2.2.2.1 u.2.2.2.2.2) (fun (u : Int32 × (Nat → Int64) × (Nat → Int32) × (Nat → Int32) × (Nat → Int32) × (Nat → Int32)) => [cMO hMO mo_thrown mo_size hTM mo_isBoard mo_width mo_height mo_person mo_moves mo_pushes mo_floor mo_goals mo_boxes mo_newFloor mo_newGoals mo_newBoxes mo_newPerson mo_newWidth mo_kept hDO u.1 mo_taken mo_length hXB hXC hXF hXY hXS hXP hFA hLE, cJ G hXB 10001 u.2.1, cI G hXC 10001 u.2.2.1, cI G hXF 10001 u.2.2.2.1, cI G hXY 10001 u.2.2.2.2.1, cI G hXS 32768 u.2.2.2.2.2]) A) args s 0 0 A) (F0 m 62 ls [])) : ∀ (n : Nat) (mo_many : Int32) (aXB : (Nat → Int64)) (aXC : (Nat → Int32)) (aXF : (Nat → Int32)) (aXY : (Nat → Int32)) (aXS : (Nat → Int32)) (v1 : Int32) (v2 : Int64) (v4 : Int32) (v5 : Int64) (v7 : Int64) (v9 : Int32) (H : Heap) (locs : List Loc) (ls : Array Slot), MO_spread_98 mo_width mo_height mo_person mo_floor mo_goals mo_boxes k62 post n mo_many aXB aXC aXF aXY aXS v1 v2 v4 v5 v7 v9 → va_P G.1 gCl [cMO hMO mo_thrown mo_size hTM mo_isBoard mo_width mo_height mo_person mo_moves mo_pushes mo_floor mo_goals mo_boxes mo_newFloor mo_newGoals mo_newBoxes mo_newPerson mo_newWidth mo_kept hDO mo_many mo_taken mo_length hXB hXC hXF hXY hXS hXP hFA hLE, cJ G hXB 10001 aXB, cI G hXC 10001 aXC, cI G hXF 10001 aXF, cI G hXY 10001 aXY, cI G hXS 32768 aXS] H → va_D A [cMO hMO mo_thrown mo_size hTM mo_isBoard mo_width mo_height mo_person mo_moves mo_pushes mo_floor mo_goals mo_boxes mo_newFloor mo_newGoals mo_newBoxes mo_newPerson mo_newWidth mo_kept hDO mo_many mo_taken mo_length hXB hXC hXF hXY hXS hXP hFA hLE, cJ G hXB 10001 aXB, cI G hXC 10001 aXC, cI G hXF 10001 aXF, cI G hXY 10001 aXY, cI G hXS 32768 aXS] → va_S A s.heap H locs → lv_has ls 14 [(0, .ref hMO), (1, .int v1), (2, .long v2), (4, .int v4), (5, .long v5), (7, .long v7), (9, .int v9)] → W p l e rm_MO_spread s m args below meth c H locs 0 0 (MQ below (gQi G (fun (r : Int32) (u : Int32 × (Nat → Int64) × (Nat → Int32) × (Nat → Int32) × (Nat → Int32) × (Nat → Int32)) => post r u.1 u.2.1 u.2.2.1 u.2.2.2.1 u.2.2.2.2.1 u.2.2.2.2.2) (fun (u : Int32 × (Nat → Int64) × (Nat → Int32) × (Nat → Int32) × (Nat → Int32) × (Nat → Int32)) => [cMO hMO mo_thrown mo_size hTM mo_isBoard mo_width mo_height mo_person mo_moves mo_pushes mo_floor mo_goals mo_boxes mo_newFloor mo_newGoals mo_newBoxes mo_newPerson mo_newWidth mo_kept hDO u.1 mo_taken mo_length hXB hXC hXF hXY hXS hXP hFA hLE, cJ G hXB 10001 u.2.1, cI G hXC 10001 u.2.2.1, cI G hXF 10001 u.2.2.2.1, cI G hXY 10001 u.2.2.2.2.1, cI G hXS 32768 u.2.2.2.2.2]) A) args s 0 0 A) (F0 m 98 ls []) := by
  intro n
  induction n with
  | zero => intro mo_many aXB aXC aXF aXY aXS v1 v2 v4 v5 v7 v9 H locs ls h _ _ _ _; exact h.elim
  | succ n ih =>
    intro mo_many aXB aXC aXF aXY aXS v1 v2 v4 v5 v7 v9 H locs ls h hP hD hS hl
    unfold MO_spread_98 at h
    refine lv_iload X.1 X.2.1 dX6_spread_98 (lv_at hl 6 rfl) ?_
    refine lv_bipush (v := (64 : Int32)) X.1 X.2.1 dX6_spread_100 (by decide) ?_
    refine lv_icmp_ge (tgt := 293) X.1 X.2.1 dX6_spread_102 (by decide) (fun hc => ?_) (fun hc => ?_)
    · replace h := Eq.mp (if_pos hc) h
      refine lv_iinc (v := (v4 + (1 : Int32))) (lv' := [(4, .int (v4 + (1 : Int32))), (0, .ref hMO), (1, .int v1), (2, .long v2), (5, .long v5), (7, .long v7), (9, .int v9)]) X.1 X.2.1 dX6_spread_293 hl (k := 3) rfl rfl (by decide) rfl (fun ls hl => ?_)
      refine lv_goto (tgt := 62) X.1 X.2.1 dX6_spread_296 (by decide) ?_
      exact hk62 mo_many aXB aXC aXF aXY aXS v1 v2 (v4 + (1 : Int32)) _ _ _ h hP hD hS (lv_sub hl [1, 2, 3, 0] rfl)
    · replace h := Eq.mp (if_neg hc) h
      refine lv_iconst (v := (0 : Int32)) X.1 X.2.1 dX6_spread_105 (by decide) ?_
      refine lv_istore (lv' := [(10, .int (0 : Int32)), (0, .ref hMO), (1, .int v1), (2, .long v2), (4, .int v4), (5, .long v5), (7, .long v7), (9, .int v9)]) X.1 X.2.1 dX6_spread_106 hl (by decide) rfl (fun ls hl => ?_)
      obtain ⟨n', h⟩ := h
      exact s_MO_spread_108 X (fun mo_many' aXB' aXC' aXF' aXY' aXS' v1' v2' v4' v5' v7' v9' H' locs' ls' h' hP' hD' hS' hl' => ih mo_many' aXB' aXC' aXF' aXY' aXS' v1' v2' v4' v5' v7' v9' H' locs' ls' h' hP' hD' hS' hl') n' mo_many aXB aXC aXF aXY aXS v1 v2 v4 v5 v7 v9 (0 : Int32) _ _ _ h hP hD hS (lv_sub hl [1, 2, 3, 4, 5, 6, 7, 0] rfl)
set_option maxHeartbeats 4000000 in
set_option maxRecDepth 100000 in
theorem s_MO_spread_62 {p : Program} {l : Launch} {e : Env} {s : State} {m : MethodId} {args : Array Value} {below : List Frame} {meth : Method} {c : Code} {G : gEnv} {A : Nat → Prop} {hMO : Nat} {hTM : Nat} {hDO : Nat} {hXB : Nat} {hXC : Nat} {hXF : Nat} {hXY : Nat} {hXS : Nat} {hXP : Nat} {hFA : Nat} {hLE : Nat} {mo_thrown : Int32} {mo_size : Int32} {mo_isBoard : Int32} {mo_moves : Int32} {mo_pushes : Int32} {mo_newFloor : Int64} {mo_newGoals : Int64} {mo_newBoxes : Int64} {mo_newPerson : Int32} {mo_newWidth : Int32} {mo_kept : Int32} {mo_taken : Int32} {mo_length : Int32} {mo_width : Int32} {mo_height : Int32} {mo_person : Int32} {mo_floor : Int64} {mo_goals : Int64} {mo_boxes : Int64} {post : Int32 → Int32 → (Nat → Int64) → (Nat → Int32) → (Nat → Int32) → (Nat → Int32) → (Nat → Int32) → Prop} (X : gX p m meth c cX6_spread 14 RX6 (some .int) s args G A)  : ∀ (n : Nat) (mo_many : Int32) (aXB : (Nat → Int64)) (aXC : (Nat → Int32)) (aXF : (Nat → Int32)) (aXY : (Nat → Int32)) (aXS : (Nat → Int32)) (v1 : Int32) (v2 : Int64) (v4 : Int32) (H : Heap) (locs : List Loc) (ls : Array Slot), MO_spread_62 mo_width mo_height mo_person mo_floor mo_goals mo_boxes post n mo_many aXB aXC aXF aXY aXS v1 v2 v4 → va_P G.1 gCl [cMO hMO mo_thrown mo_size hTM mo_isBoard mo_width mo_height mo_person mo_moves mo_pushes mo_floor mo_goals mo_boxes mo_newFloor mo_newGoals mo_newBoxes mo_newPerson mo_newWidth mo_kept hDO mo_many mo_taken mo_length hXB hXC hXF hXY hXS hXP hFA hLE, cJ G hXB 10001 aXB, cI G hXC 10001 aXC, cI G hXF 10001 aXF, cI G hXY 10001 aXY, cI G hXS 32768 aXS] H → va_D A [cMO hMO mo_thrown mo_size hTM mo_isBoard mo_width mo_height mo_person mo_moves mo_pushes mo_floor mo_goals mo_boxes mo_newFloor mo_newGoals mo_newBoxes mo_newPerson mo_newWidth mo_kept hDO mo_many mo_taken mo_length hXB hXC hXF hXY hXS hXP hFA hLE, cJ G hXB 10001 aXB, cI G hXC 10001 aXC, cI G hXF 10001 aXF, cI G hXY 10001 aXY, cI G hXS 32768 aXS] → va_S A s.heap H locs → lv_has ls 14 [(0, .ref hMO), (1, .int v1), (2, .long v2), (4, .int v4)] → W p l e rm_MO_spread s m args below meth c H locs 0 0 (MQ below (gQi G (fun (r : Int32) (u : Int32 × (Nat → Int64) × (Nat → Int32) × (Nat → Int32) × (Nat → Int32) × (Nat → Int32)) => post r u.1 u.2.1 u.2.2.1 u.2.2.2.1 u.2.2.2.2.1 u.2.2.2.2.2) (fun (u : Int32 × (Nat → Int64) × (Nat → Int32) × (Nat → Int32) × (Nat → Int32) × (Nat → Int32)) => [cMO hMO mo_thrown mo_size hTM mo_isBoard mo_width mo_height mo_person mo_moves mo_pushes mo_floor mo_goals mo_boxes mo_newFloor mo_newGoals mo_newBoxes mo_newPerson mo_newWidth mo_kept hDO u.1 mo_taken mo_length hXB hXC hXF hXY hXS hXP hFA hLE, cJ G hXB 10001 u.2.1, cI G hXC 10001 u.2.2.1, cI G hXF 10001 u.2.2.2.1, cI G hXY 10001 u.2.2.2.2.1, cI G hXS 32768 u.2.2.2.2.2]) A) args s 0 0 A) (F0 m 62 ls []) := by
  intro n
  induction n with
  | zero => intro mo_many aXB aXC aXF aXY aXS v1 v2 v4 H locs ls h _ _ _ _; exact h.elim
  | succ n ih =>
    intro mo_many aXB aXC aXF aXY aXS v1 v2 v4 H locs ls h hP hD hS hl
    unfold MO_spread_62 at h
    refine lv_iload X.1 X.2.1 dX6_spread_62 (lv_at hl 3 rfl) ?_
    refine lv_aload_n X.1 X.2.1 dX6_spread_64 rfl (lv_at hl 0 rfl) ?_
    refine g_get X hP 0 6 19 (v := .int mo_many) rfl rfl inX6 (by decide) fl_X6_173 rfl dX6_spread_65 ?_
    refine lv_icmp_ge (tgt := 299) X.1 X.2.1 dX6_spread_68 (by decide) (fun hc => ?_) (fun hc => ?_)
    · replace h := Eq.mp (if_pos hc) h
      refine lv_iconst (v := (-1 : Int32)) X.1 X.2.1 dX6_spread_299 (by decide) ?_
      exact g_iret X (mo_many, aXB, aXC, aXF, aXY, aXS) h hP hD hS dX6_spread_300
    · replace h := Eq.mp (if_neg hc) h
      refine lv_aload_n X.1 X.2.1 dX6_spread_71 rfl (lv_at hl 0 rfl) ?_
      refine g_get X hP 0 6 22 (v := .ref hXB) rfl rfl inX6 (by decide) fl_X6_16 rfl dX6_spread_72 ?_
      refine lv_iload X.1 X.2.1 dX6_spread_75 (lv_at hl 3 rfl) ?_
      obtain ⟨hin, h⟩ := h
      refine va_lald (D := G.1) X.1 X.2.1 X.k.1 hP 1 1 rfl rfl hin dX6_spread_77 ?_
      refine lv_topl (fun v5_1 e_v5_1 => ?_)
      replace h := h v5_1 e_v5_1
      refine lv_lstore (lv' := [(5, .long v5_1), (0, .ref hMO), (1, .int v1), (2, .long v2), (4, .int v4)]) X.1 X.2.1 dX6_spread_78 hl (by decide) rfl (fun ls hl => ?_)
      refine lv_aload_n X.1 X.2.1 dX6_spread_80 rfl (lv_at hl 1 rfl) ?_
      refine lv_aload_n X.1 X.2.1 dX6_spread_81 rfl (lv_at hl 1 rfl) ?_
      refine g_get X hP 0 6 23 (v := .ref hXC) rfl rfl inX6 (by decide) fl_X6_20 rfl dX6_spread_82 ?_
      refine lv_iload X.1 X.2.1 dX6_spread_85 (lv_at hl 4 rfl) ?_
      obtain ⟨hin, h⟩ := h
      refine va_iald (D := G.1) X.1 X.2.1 X.k.1 hP 2 0 rfl rfl hin dX6_spread_87 ?_
      refine lv_lload X.1 X.2.1 dX6_spread_88 (lv_at hl 0 rfl) ?_
      refine g_cl (wr := [cJ G hXB 10001 aXB, cI G hXC 10001 aXC, cI G hXF 10001 aXF, cI G hXY 10001 aXY, cI G hXS 32768 aXS]) X [0] [1, 2, 3, 4, 5] (g_rV (As := [.int (aXC v4.toNatClampNeg), .long v5_1]) (rest := []) X (c_MO_reachOf l G hMO hTM hDO hXB hXC hXF hXY hXS hXP hFA hLE mo_thrown mo_size mo_isBoard mo_width mo_height mo_person mo_moves mo_pushes mo_floor mo_goals mo_boxes mo_newFloor mo_newGoals mo_newBoxes mo_newPerson mo_newWidth mo_kept mo_many mo_taken mo_length (aXC v4.toNatClampNeg) v5_1 _ h _) lk_X6_139 rfl rfl ⟨Nat.le_of_ble_eq_true rfl, Nat.le_of_ble_eq_true rfl⟩ hP hD hS [0] rfl rfl 0 6 rfl rfl rfl hl.1 rfl (Nat.le_of_ble_eq_true rfl) dX6_spread_90 ⟨Nat.le_of_ble_eq_true rfl, Nat.le_of_ble_eq_true rfl⟩) hP hD hS rfl rfl rfl (by decide) (fun r_2 u H locs h hP hD hS => ?_)
      try dsimp only at h
      replace hP := hP.sub (ws' := [cMO hMO mo_thrown mo_size hTM mo_isBoard mo_width mo_height mo_person mo_moves mo_pushes mo_floor mo_goals mo_boxes mo_newFloor mo_newGoals mo_newBoxes mo_newPerson mo_newWidth mo_kept hDO mo_many mo_taken mo_length hXB hXC hXF hXY hXS hXP hFA hLE, cJ G hXB 10001 aXB, cI G hXC 10001 aXC, cI G hXF 10001 aXF, cI G hXY 10001 aXY, cI G hXS 32768 aXS]) [5, 0, 1, 2, 3, 4] rfl
      replace hD := hD.sub (ws' := [cMO hMO mo_thrown mo_size hTM mo_isBoard mo_width mo_height mo_person mo_moves mo_pushes mo_floor mo_goals mo_boxes mo_newFloor mo_newGoals mo_newBoxes mo_newPerson mo_newWidth mo_kept hDO mo_many mo_taken mo_length hXB hXC hXF hXY hXS hXP hFA hLE, cJ G hXB 10001 aXB, cI G hXC 10001 aXC, cI G hXF 10001 aXF, cI G hXY 10001 aXY, cI G hXS 32768 aXS]) [5, 0, 1, 2, 3, 4] rfl rfl
      refine lv_lstore (lv' := [(7, .long r_2), (5, .long v5_1), (0, .ref hMO), (1, .int v1), (2, .long v2), (4, .int v4)]) X.1 X.2.1 dX6_spread_93 hl (by decide) rfl (fun ls hl => ?_)
      refine lv_iconst (v := (0 : Int32)) X.1 X.2.1 dX6_spread_95 (by decide) ?_
      refine lv_istore (lv' := [(9, .int (0 : Int32)), (7, .long r_2), (5, .long v5_1), (0, .ref hMO), (1, .int v1), (2, .long v2), (4, .int v4)]) X.1 X.2.1 dX6_spread_96 hl (by decide) rfl (fun ls hl => ?_)
      obtain ⟨n', h⟩ := h
      exact s_MO_spread_98 X (fun mo_many' aXB' aXC' aXF' aXY' aXS' v1' v2' v4' H' locs' ls' h' hP' hD' hS' hl' => ih mo_many' aXB' aXC' aXF' aXY' aXS' v1' v2' v4' H' locs' ls' h' hP' hD' hS' hl') n' mo_many aXB aXC aXF aXY aXS v1 v2 v4 v5_1 r_2 (0 : Int32) _ _ _ h hP hD hS (lv_sub hl [3, 4, 5, 6, 2, 1, 0] rfl)
set_option maxHeartbeats 4000000 in
set_option maxRecDepth 100000 in
theorem s_MO_spread_2 {p : Program} {l : Launch} {e : Env} {s : State} {m : MethodId} {args : Array Value} {below : List Frame} {meth : Method} {c : Code} {G : gEnv} {A : Nat → Prop} {hMO : Nat} {hTM : Nat} {hDO : Nat} {hXB : Nat} {hXC : Nat} {hXF : Nat} {hXY : Nat} {hXS : Nat} {hXP : Nat} {hFA : Nat} {hLE : Nat} {mo_thrown : Int32} {mo_size : Int32} {mo_isBoard : Int32} {mo_moves : Int32} {mo_pushes : Int32} {mo_newFloor : Int64} {mo_newGoals : Int64} {mo_newBoxes : Int64} {mo_newPerson : Int32} {mo_newWidth : Int32} {mo_kept : Int32} {mo_taken : Int32} {mo_length : Int32} {mo_width : Int32} {mo_height : Int32} {mo_person : Int32} {mo_floor : Int64} {mo_goals : Int64} {mo_boxes : Int64} {post : Int32 → Int32 → (Nat → Int64) → (Nat → Int32) → (Nat → Int32) → (Nat → Int32) → (Nat → Int32) → Prop} (X : gX p m meth c cX6_spread 14 RX6 (some .int) s args G A)  : ∀ (n : Nat) (mo_many : Int32) (aXB : (Nat → Int64)) (aXC : (Nat → Int32)) (aXF : (Nat → Int32)) (aXY : (Nat → Int32)) (aXS : (Nat → Int32)) (v1 : Int32) (v2 : Int32) (H : Heap) (locs : List Loc) (ls : Array Slot), MO_spread_2 mo_width mo_height mo_person mo_floor mo_goals mo_boxes post n mo_many aXB aXC aXF aXY aXS v1 v2 → va_P G.1 gCl [cMO hMO mo_thrown mo_size hTM mo_isBoard mo_width mo_height mo_person mo_moves mo_pushes mo_floor mo_goals mo_boxes mo_newFloor mo_newGoals mo_newBoxes mo_newPerson mo_newWidth mo_kept hDO mo_many mo_taken mo_length hXB hXC hXF hXY hXS hXP hFA hLE, cJ G hXB 10001 aXB, cI G hXC 10001 aXC, cI G hXF 10001 aXF, cI G hXY 10001 aXY, cI G hXS 32768 aXS] H → va_D A [cMO hMO mo_thrown mo_size hTM mo_isBoard mo_width mo_height mo_person mo_moves mo_pushes mo_floor mo_goals mo_boxes mo_newFloor mo_newGoals mo_newBoxes mo_newPerson mo_newWidth mo_kept hDO mo_many mo_taken mo_length hXB hXC hXF hXY hXS hXP hFA hLE, cJ G hXB 10001 aXB, cI G hXC 10001 aXC, cI G hXF 10001 aXF, cI G hXY 10001 aXY, cI G hXS 32768 aXS] → va_S A s.heap H locs → lv_has ls 14 [(0, .ref hMO), (1, .int v1), (2, .int v2)] → W p l e rm_MO_spread s m args below meth c H locs 0 0 (MQ below (gQi G (fun (r : Int32) (u : Int32 × (Nat → Int64) × (Nat → Int32) × (Nat → Int32) × (Nat → Int32) × (Nat → Int32)) => post r u.1 u.2.1 u.2.2.1 u.2.2.2.1 u.2.2.2.2.1 u.2.2.2.2.2) (fun (u : Int32 × (Nat → Int64) × (Nat → Int32) × (Nat → Int32) × (Nat → Int32) × (Nat → Int32)) => [cMO hMO mo_thrown mo_size hTM mo_isBoard mo_width mo_height mo_person mo_moves mo_pushes mo_floor mo_goals mo_boxes mo_newFloor mo_newGoals mo_newBoxes mo_newPerson mo_newWidth mo_kept hDO u.1 mo_taken mo_length hXB hXC hXF hXY hXS hXP hFA hLE, cJ G hXB 10001 u.2.1, cI G hXC 10001 u.2.2.1, cI G hXF 10001 u.2.2.2.1, cI G hXY 10001 u.2.2.2.2.1, cI G hXS 32768 u.2.2.2.2.2]) A) args s 0 0 A) (F0 m 2 ls []) := by
  intro n
  induction n with
  | zero => intro mo_many aXB aXC aXF aXY aXS v1 v2 H locs ls h _ _ _ _; exact h.elim
  | succ n ih =>
    intro mo_many aXB aXC aXF aXY aXS v1 v2 H locs ls h hP hD hS hl
    unfold MO_spread_2 at h
    refine lv_iload_n X.1 X.2.1 dX6_spread_2 rfl (lv_at hl 2 rfl) ?_
    refine lv_ldc (v := (32768 : Int32)) X.1 X.2.1 X.2.2.2.1 (X.2.2.2.2.1 _ cn_X6_29) dX6_spread_3 ?_
    refine lv_icmp_ge (tgt := 21) X.1 X.2.1 dX6_spread_5 (by decide) (fun hc => ?_) (fun hc => ?_)
    · replace h := Eq.mp (if_pos hc) h
      refine lv_aload_n X.1 X.2.1 dX6_spread_21 rfl (lv_at hl 0 rfl) ?_
      refine lv_iconst (v := (0 : Int32)) X.1 X.2.1 dX6_spread_22 (by decide) ?_
      refine g_put X hP hD hS 0 6 19 (v := .int (0 : Int32)) rfl rfl inX6 tyX6 tyX6_ok nmX6 (by decide) fl_X6_173 rfl rfl rfl rfl (Nat.le_of_ble_eq_true rfl) dX6_spread_23 (fun H locs hP hD hS => ?_)
      replace hP : va_P G.1 gCl [cMO hMO mo_thrown mo_size hTM mo_isBoard mo_width mo_height mo_person mo_moves mo_pushes mo_floor mo_goals mo_boxes mo_newFloor mo_newGoals mo_newBoxes mo_newPerson mo_newWidth mo_kept hDO (0 : Int32) mo_taken mo_length hXB hXC hXF hXY hXS hXP hFA hLE, cJ G hXB 10001 aXB, cI G hXC 10001 aXC, cI G hXF 10001 aXF, cI G hXY 10001 aXY, cI G hXS 32768 aXS] H := hP
      replace hD : va_D A [cMO hMO mo_thrown mo_size hTM mo_isBoard mo_width mo_height mo_person mo_moves mo_pushes mo_floor mo_goals mo_boxes mo_newFloor mo_newGoals mo_newBoxes mo_newPerson mo_newWidth mo_kept hDO (0 : Int32) mo_taken mo_length hXB hXC hXF hXY hXS hXP hFA hLE, cJ G hXB 10001 aXB, cI G hXC 10001 aXC, cI G hXF 10001 aXF, cI G hXY 10001 aXY, cI G hXS 32768 aXS] := hD
      refine lv_aload_n X.1 X.2.1 dX6_spread_26 rfl (lv_at hl 0 rfl) ?_
      refine lv_aload_n X.1 X.2.1 dX6_spread_27 rfl (lv_at hl 0 rfl) ?_
      refine g_get X hP 0 6 11 (v := .long mo_boxes) rfl rfl inX6 (by decide) fl_X6_97 rfl dX6_spread_28 ?_
      refine lv_aload_n X.1 X.2.1 dX6_spread_31 rfl (lv_at hl 0 rfl) ?_
      refine g_get X hP 0 6 6 (v := .int mo_person) rfl rfl inX6 (by decide) fl_X6_100 rfl dX6_spread_32 ?_
      refine lv_iconst (v := (-1 : Int32)) X.1 X.2.1 dX6_spread_35 (by decide) ?_
      refine lv_iconst (v := (0 : Int32)) X.1 X.2.1 dX6_spread_36 (by decide) ?_
      refine g_ci (wr := []) X [0, 1, 2, 3, 4, 5] [] (g_rV (As := [.long mo_boxes, .int mo_person, .int (-1 : Int32), .int (0 : Int32)]) (rest := []) X (c_MO_isNew l G hMO hTM hDO hXB hXC hXF hXY hXS hXP hFA hLE mo_thrown mo_size mo_isBoard mo_width mo_height mo_person mo_moves mo_pushes mo_floor mo_goals mo_boxes mo_newFloor mo_newGoals mo_newBoxes mo_newPerson mo_newWidth mo_kept (0 : Int32) mo_taken mo_length aXB aXC aXF aXY aXS mo_boxes mo_person (-1 : Int32) (0 : Int32) _ h _) lk_X6_176 rfl rfl ⟨Nat.le_of_ble_eq_true rfl, Nat.le_of_ble_eq_true rfl⟩ hP hD hS [0, 1, 2, 3, 4, 5] rfl rfl 0 6 rfl rfl rfl hl.1 rfl (Nat.le_of_ble_eq_true rfl) dX6_spread_37 ⟨Nat.le_of_ble_eq_true rfl, Nat.le_of_ble_eq_true rfl⟩) hP hD hS rfl rfl rfl (by decide) (fun r_1 u H locs h hP hD hS => ?_)
      obtain ⟨mo_many_2, aXB_3, aXC_4, aXF_5, aXY_6, aXS_7⟩ := u
      try dsimp only at h
      replace hP := hP.sub (ws' := [cMO hMO mo_thrown mo_size hTM mo_isBoard mo_width mo_height mo_person mo_moves mo_pushes mo_floor mo_goals mo_boxes mo_newFloor mo_newGoals mo_newBoxes mo_newPerson mo_newWidth mo_kept hDO mo_many_2 mo_taken mo_length hXB hXC hXF hXY hXS hXP hFA hLE, cJ G hXB 10001 aXB_3, cI G hXC 10001 aXC_4, cI G hXF 10001 aXF_5, cI G hXY 10001 aXY_6, cI G hXS 32768 aXS_7]) [0, 1, 2, 3, 4, 5] rfl
      replace hD := hD.sub (ws' := [cMO hMO mo_thrown mo_size hTM mo_isBoard mo_width mo_height mo_person mo_moves mo_pushes mo_floor mo_goals mo_boxes mo_newFloor mo_newGoals mo_newBoxes mo_newPerson mo_newWidth mo_kept hDO mo_many_2 mo_taken mo_length hXB hXC hXF hXY hXS hXP hFA hLE, cJ G hXB 10001 aXB_3, cI G hXC 10001 aXC_4, cI G hXF 10001 aXF_5, cI G hXY 10001 aXY_6, cI G hXS 32768 aXS_7]) [0, 1, 2, 3, 4, 5] rfl rfl
      refine lv_pop X.1 X.2.1 dX6_spread_40 rfl ?_
      refine lv_aload_n X.1 X.2.1 dX6_spread_41 rfl (lv_at hl 0 rfl) ?_
      refine lv_aload_n X.1 X.2.1 dX6_spread_42 rfl (lv_at hl 0 rfl) ?_
      refine g_get X hP 0 6 11 (v := .long mo_boxes) rfl rfl inX6 (by decide) fl_X6_97 rfl dX6_spread_43 ?_
      refine g_ci (wr := [cJ G hXB 10001 aXB_3, cI G hXC 10001 aXC_4, cI G hXF 10001 aXF_5, cI G hXY 10001 aXY_6, cI G hXS 32768 aXS_7]) X [0] [1, 2, 3, 4, 5] (g_rV (As := [.long mo_boxes]) (rest := []) X (c_MO_isDone l G hMO hTM hDO hXB hXC hXF hXY hXS hXP hFA hLE mo_thrown mo_size mo_isBoard mo_width mo_height mo_person mo_moves mo_pushes mo_floor mo_goals mo_boxes mo_newFloor mo_newGoals mo_newBoxes mo_newPerson mo_newWidth mo_kept mo_many_2 mo_taken mo_length mo_boxes _ h _) lk_X6_135 rfl rfl ⟨Nat.le_of_ble_eq_true rfl, Nat.le_of_ble_eq_true rfl⟩ hP hD hS [0] rfl rfl 0 6 rfl rfl rfl hl.1 rfl (Nat.le_of_ble_eq_true rfl) dX6_spread_46 ⟨Nat.le_of_ble_eq_true rfl, Nat.le_of_ble_eq_true rfl⟩) hP hD hS rfl rfl rfl (by decide) (fun r_8 u H locs h hP hD hS => ?_)
      try dsimp only at h
      replace hP := hP.sub (ws' := [cMO hMO mo_thrown mo_size hTM mo_isBoard mo_width mo_height mo_person mo_moves mo_pushes mo_floor mo_goals mo_boxes mo_newFloor mo_newGoals mo_newBoxes mo_newPerson mo_newWidth mo_kept hDO mo_many_2 mo_taken mo_length hXB hXC hXF hXY hXS hXP hFA hLE, cJ G hXB 10001 aXB_3, cI G hXC 10001 aXC_4, cI G hXF 10001 aXF_5, cI G hXY 10001 aXY_6, cI G hXS 32768 aXS_7]) [5, 0, 1, 2, 3, 4] rfl
      replace hD := hD.sub (ws' := [cMO hMO mo_thrown mo_size hTM mo_isBoard mo_width mo_height mo_person mo_moves mo_pushes mo_floor mo_goals mo_boxes mo_newFloor mo_newGoals mo_newBoxes mo_newPerson mo_newWidth mo_kept hDO mo_many_2 mo_taken mo_length hXB hXC hXF hXY hXS hXP hFA hLE, cJ G hXB 10001 aXB_3, cI G hXC 10001 aXC_4, cI G hXF 10001 aXF_5, cI G hXY 10001 aXY_6, cI G hXS 32768 aXS_7]) [5, 0, 1, 2, 3, 4] rfl rfl
      refine lv_if_eq (tgt := 54) X.1 X.2.1 dX6_spread_49 (by decide) (fun hc => ?_) (fun hc => ?_)
      · replace h := Eq.mp (if_pos hc) h
        refine lv_aload_n X.1 X.2.1 dX6_spread_54 rfl (lv_at hl 0 rfl) ?_
        refine g_cl (wr := [cJ G hXB 10001 aXB_3, cI G hXC 10001 aXC_4, cI G hXF 10001 aXF_5, cI G hXY 10001 aXY_6, cI G hXS 32768 aXS_7]) X [0] [1, 2, 3, 4, 5] (g_rV (As := []) (rest := []) X (c_MO_live l G hMO hTM hDO hXB hXC hXF hXY hXS hXP hFA hLE mo_thrown mo_size mo_isBoard mo_width mo_height mo_person mo_moves mo_pushes mo_floor mo_goals mo_boxes mo_newFloor mo_newGoals mo_newBoxes mo_newPerson mo_newWidth mo_kept mo_many_2 mo_taken mo_length _ h _) lk_X6_143 rfl rfl ⟨Nat.le_of_ble_eq_true rfl, Nat.le_of_ble_eq_true rfl⟩ hP hD hS [0] rfl rfl 0 6 rfl rfl rfl hl.1 rfl (Nat.le_of_ble_eq_true rfl) dX6_spread_55 ⟨Nat.le_of_ble_eq_true rfl, Nat.le_of_ble_eq_true rfl⟩) hP hD hS rfl rfl rfl (by decide) (fun r_9 u H locs h hP hD hS => ?_)
        try dsimp only at h
        replace hP := hP.sub (ws' := [cMO hMO mo_thrown mo_size hTM mo_isBoard mo_width mo_height mo_person mo_moves mo_pushes mo_floor mo_goals mo_boxes mo_newFloor mo_newGoals mo_newBoxes mo_newPerson mo_newWidth mo_kept hDO mo_many_2 mo_taken mo_length hXB hXC hXF hXY hXS hXP hFA hLE, cJ G hXB 10001 aXB_3, cI G hXC 10001 aXC_4, cI G hXF 10001 aXF_5, cI G hXY 10001 aXY_6, cI G hXS 32768 aXS_7]) [5, 0, 1, 2, 3, 4] rfl
        replace hD := hD.sub (ws' := [cMO hMO mo_thrown mo_size hTM mo_isBoard mo_width mo_height mo_person mo_moves mo_pushes mo_floor mo_goals mo_boxes mo_newFloor mo_newGoals mo_newBoxes mo_newPerson mo_newWidth mo_kept hDO mo_many_2 mo_taken mo_length hXB hXC hXF hXY hXS hXP hFA hLE, cJ G hXB 10001 aXB_3, cI G hXC 10001 aXC_4, cI G hXF 10001 aXF_5, cI G hXY 10001 aXY_6, cI G hXS 32768 aXS_7]) [5, 0, 1, 2, 3, 4] rfl rfl
        refine lv_lstore_n (lv' := [(2, .long r_9), (0, .ref hMO), (1, .int v1)]) X.1 X.2.1 dX6_spread_58 rfl hl (by decide) rfl (fun ls hl => ?_)
        refine lv_iconst (v := (0 : Int32)) X.1 X.2.1 dX6_spread_59 (by decide) ?_
        refine lv_istore (lv' := [(4, .int (0 : Int32)), (2, .long r_9), (0, .ref hMO), (1, .int v1)]) X.1 X.2.1 dX6_spread_60 hl (by decide) rfl (fun ls hl => ?_)
        obtain ⟨n', h⟩ := h
        exact s_MO_spread_62 X  n' mo_many_2 aXB_3 aXC_4 aXF_5 aXY_6 aXS_7 v1 r_9 (0 : Int32) _ _ _ h hP hD hS (lv_sub hl [2, 3, 1, 0] rfl)
      · replace h := Eq.mp (if_neg hc) h
        refine lv_iconst (v := (0 : Int32)) X.1 X.2.1 dX6_spread_52 (by decide) ?_
        exact g_iret X (mo_many_2, aXB_3, aXC_4, aXF_5, aXY_6, aXS_7) h hP hD hS dX6_spread_53
    · replace h := Eq.mp (if_neg hc) h
      refine lv_aload_n X.1 X.2.1 dX6_spread_8 rfl (lv_at hl 0 rfl) ?_
      refine g_get X hP 0 6 26 (v := .ref hXS) rfl rfl inX6 (by decide) fl_X6_30 rfl dX6_spread_9 ?_
      refine lv_iload_n X.1 X.2.1 dX6_spread_12 rfl (lv_at hl 2 rfl) ?_
      refine lv_iconst (v := (-1 : Int32)) X.1 X.2.1 dX6_spread_13 (by decide) ?_
      obtain ⟨hin, h⟩ := h
      refine g_ist X hP hD hS 5 rfl hin dX6_spread_14 (fun aXS_10 e_aXS_10 H locs hP hD hS => ?_)
      replace h := h aXS_10 e_aXS_10
      replace hP : va_P G.1 gCl [cMO hMO mo_thrown mo_size hTM mo_isBoard mo_width mo_height mo_person mo_moves mo_pushes mo_floor mo_goals mo_boxes mo_newFloor mo_newGoals mo_newBoxes mo_newPerson mo_newWidth mo_kept hDO mo_many mo_taken mo_length hXB hXC hXF hXY hXS hXP hFA hLE, cJ G hXB 10001 aXB, cI G hXC 10001 aXC, cI G hXF 10001 aXF, cI G hXY 10001 aXY, cI G hXS 32768 aXS_10] H := hP
      replace hD : va_D A [cMO hMO mo_thrown mo_size hTM mo_isBoard mo_width mo_height mo_person mo_moves mo_pushes mo_floor mo_goals mo_boxes mo_newFloor mo_newGoals mo_newBoxes mo_newPerson mo_newWidth mo_kept hDO mo_many mo_taken mo_length hXB hXC hXF hXY hXS hXP hFA hLE, cJ G hXB 10001 aXB, cI G hXC 10001 aXC, cI G hXF 10001 aXF, cI G hXY 10001 aXY, cI G hXS 32768 aXS_10] := hD
      refine lv_iinc (v := (v2 + (1 : Int32))) (lv' := [(2, .int (v2 + (1 : Int32))), (0, .ref hMO), (1, .int v1)]) X.1 X.2.1 dX6_spread_15 hl (k := 2) rfl rfl (by decide) rfl (fun ls hl => ?_)
      refine lv_goto (tgt := 2) X.1 X.2.1 dX6_spread_18 (by decide) ?_
      exact ih mo_many aXB aXC aXF aXY aXS_10 v1 (v2 + (1 : Int32)) _ _ _ h hP hD hS (lv_sub hl [1, 2, 0] rfl)
set_option maxHeartbeats 4000000 in
set_option maxRecDepth 100000 in
theorem c_MO_spread (l : Launch) (G : gEnv) (hMO : Nat) (hTM : Nat) (hDO : Nat) (hXB : Nat) (hXC : Nat) (hXF : Nat) (hXY : Nat) (hXS : Nat) (hXP : Nat) (hFA : Nat) (hLE : Nat) (mo_thrown : Int32) (mo_size : Int32) (mo_isBoard : Int32) (mo_width : Int32) (mo_height : Int32) (mo_person : Int32) (mo_moves : Int32) (mo_pushes : Int32) (mo_floor : Int64) (mo_goals : Int64) (mo_boxes : Int64) (mo_newFloor : Int64) (mo_newGoals : Int64) (mo_newBoxes : Int64) (mo_newPerson : Int32) (mo_newWidth : Int32) (mo_kept : Int32) (mo_many : Int32) (mo_taken : Int32) (mo_length : Int32) (aXB : Nat → Int64) (aXC : Nat → Int32) (aXF : Nat → Int32) (aXY : Nat → Int32) (aXS : Nat → Int32) (v1 : Int32) (post : Int32 → Int32 → (Nat → Int64) → (Nat → Int32) → (Nat → Int32) → (Nat → Int32) → (Nat → Int32) → Prop) (h : MO_spread mo_width mo_height mo_person mo_floor mo_goals mo_boxes mo_many aXB aXC aXF aXY aXS v1 post) (sz : Nat) : Met l yX6_spread (Cond.code yX6_spread cX6_spread 14 (some .int) :: wAll) (rm_MO_spread) (gPc G [.ref hMO, .int v1] [cMO hMO mo_thrown mo_size hTM mo_isBoard mo_width mo_height mo_person mo_moves mo_pushes mo_floor mo_goals mo_boxes mo_newFloor mo_newGoals mo_newBoxes mo_newPerson mo_newWidth mo_kept hDO mo_many mo_taken mo_length hXB hXC hXF hXY hXS hXP hFA hLE, cJ G hXB 10001 aXB, cI G hXC 10001 aXC, cI G hXF 10001 aXF, cI G hXY 10001 aXY, cI G hXS 32768 aXS] sz) (gQi G (fun (r : Int32) (u : Int32 × (Nat → Int64) × (Nat → Int32) × (Nat → Int32) × (Nat → Int32) × (Nat → Int32)) => post r u.1 u.2.1 u.2.2.1 u.2.2.2.1 u.2.2.2.2.1 u.2.2.2.2.2) (fun (u : Int32 × (Nat → Int64) × (Nat → Int32) × (Nat → Int32) × (Nat → Int32) × (Nat → Int32)) => [cMO hMO mo_thrown mo_size hTM mo_isBoard mo_width mo_height mo_person mo_moves mo_pushes mo_floor mo_goals mo_boxes mo_newFloor mo_newGoals mo_newBoxes mo_newPerson mo_newWidth mo_kept hDO u.1 mo_taken mo_length hXB hXC hXF hXY hXS hXP hFA hLE, cJ G hXB 10001 u.2.1, cI G hXC 10001 u.2.2.1, cI G hXF 10001 u.2.2.2.1, cI G hXY 10001 u.2.2.2.2.1, cI G hXS 32768 u.2.2.2.2.2]) (va_A [cMO hMO mo_thrown mo_size hTM mo_isBoard mo_width mo_height mo_person mo_moves mo_pushes mo_floor mo_goals mo_boxes mo_newFloor mo_newGoals mo_newBoxes mo_newPerson mo_newWidth mo_kept hDO mo_many mo_taken mo_length hXB hXC hXF hXY hXS hXP hFA hLE, cJ G hXB 10001 aXB, cI G hXC 10001 aXC, cI G hXF 10001 aXF, cI G hXY 10001 aXY, cI G hXS 32768 aXS] sz)) 0 0 (va_A [cMO hMO mo_thrown mo_size hTM mo_isBoard mo_width mo_height mo_person mo_moves mo_pushes mo_floor mo_goals mo_boxes mo_newFloor mo_newGoals mo_newBoxes mo_newPerson mo_newWidth mo_kept hDO mo_many mo_taken mo_length hXB hXC hXF hXY hXS hXP hFA hLE, cJ G hXB 10001 aXB, cI G hXC 10001 aXC, cI G hXF 10001 aXF, cI G hXY 10001 aXY, cI G hXS 32768 aXS] sz) := by
  refine Met.ofW (cc := cX6_spread) (maxL := 14) (ret := (some .int)) (by decide) rfl ?_
  intro p e s m args below meth c s₁ B hml hv
  obtain ⟨rfl, hsz, hP, hK, hD0⟩ := hv
  subst hsz
  have X := gX.ofB (ws := [cMO hMO mo_thrown mo_size hTM mo_isBoard mo_width mo_height mo_person mo_moves mo_pushes mo_floor mo_goals mo_boxes mo_newFloor mo_newGoals mo_newBoxes mo_newPerson mo_newWidth mo_kept hDO mo_many mo_taken mo_length hXB hXC hXF hXY hXS hXP hFA hLE, cJ G hXB 10001 aXB, cI G hXC 10001 aXC, cI G hXF 10001 aXF, cI G hXY 10001 aXY, cI G hXS 32768 aXS]) B hml hK hD0
  have hD := hD0.self (sz := s.heap.size)
  generalize hAe : va_A [cMO hMO mo_thrown mo_size hTM mo_isBoard mo_width mo_height mo_person mo_moves mo_pushes mo_floor mo_goals mo_boxes mo_newFloor mo_newGoals mo_newBoxes mo_newPerson mo_newWidth mo_kept hDO mo_many mo_taken mo_length hXB hXC hXF hXY hXS hXP hFA hLE, cJ G hXB 10001 aXB, cI G hXC 10001 aXC, cI G hXF 10001 aXF, cI G hXY 10001 aXY, cI G hXS 32768 aXS] s.heap.size = A at X hD ⊢
  have hS : va_S A s.heap s.heap [] := va_S.rf
  have hl := lv_entry ([.ref hMO, .int v1]) (n := 14) (Nat.le_of_ble_eq_true rfl)
  rw [lg_entry_eq]
  generalize (lg_sl ([.ref hMO, .int v1]) ++ List.replicate (14 - (lg_sl ([.ref hMO, .int v1])).length) Slot.unset).toArray = ls at hl ⊢
  have hl : lv_has ls 14 [(0, .ref hMO), (1, .int v1)] := hl
  dsimp only [headSpec]
  unfold MO_spread at h
  refine lv_iconst (v := (0 : Int32)) X.1 X.2.1 dX6_spread_0 (by decide) ?_
  refine lv_istore_n (lv' := [(2, .int (0 : Int32)), (0, .ref hMO), (1, .int v1)]) X.1 X.2.1 dX6_spread_1 rfl hl (by decide) rfl (fun ls hl => ?_)
  obtain ⟨n', h⟩ := h
  exact s_MO_spread_2 X  n' mo_many aXB aXC aXF aXY aXS v1 (0 : Int32) _ _ _ h hP hD hS (lv_sub hl [1, 2, 0] rfl)
abbrev rm_MO_search : Room := { frames := 5, cells := 0, slots := 0, locals := 136 }
set_option maxHeartbeats 4000000 in
set_option maxRecDepth 100000 in
theorem s_MO_search_96 {p : Program} {l : Launch} {e : Env} {s : State} {m : MethodId} {args : Array Value} {below : List Frame} {meth : Method} {c : Code} {G : gEnv} {A : Nat → Prop} {hMO : Nat} {hTM : Nat} {hDO : Nat} {hXB : Nat} {hXC : Nat} {hXF : Nat} {hXY : Nat} {hXS : Nat} {hXP : Nat} {hFA : Nat} {hLE : Nat} {mo_size : Int32} {mo_moves : Int32} {mo_pushes : Int32} {mo_newFloor : Int64} {mo_newGoals : Int64} {mo_newBoxes : Int64} {mo_newPerson : Int32} {mo_newWidth : Int32} {mo_kept : Int32} {mo_isBoard : Int32} {mo_width : Int32} {mo_height : Int32} {mo_person : Int32} {mo_floor : Int64} {mo_goals : Int64} {mo_boxes : Int64} {post : Int32 → Int32 → Int32 → Int32 → Int32 → (Nat → Int64) → (Nat → Int32) → (Nat → Int32) → (Nat → Int32) → (Nat → Int32) → (Nat → Int32) → Prop} (X : gX p m meth c cX6_search 5 RX6 (some .int) s args G A)  : ∀ (n : Nat) (mo_thrown : Int32) (mo_many : Int32) (mo_taken : Int32) (mo_length : Int32) (aXB : (Nat → Int64)) (aXC : (Nat → Int32)) (aXF : (Nat → Int32)) (aXY : (Nat → Int32)) (aXS : (Nat → Int32)) (aXP : (Nat → Int32)) (v3 : Int32) (v4 : Int32) (H : Heap) (locs : List Loc) (ls : Array Slot), MO_search_96 mo_isBoard mo_width mo_height mo_person mo_floor mo_goals mo_boxes post n mo_thrown mo_many mo_taken mo_length aXB aXC aXF aXY aXS aXP v3 v4 → va_P G.1 gCl [cMO hMO mo_thrown mo_size hTM mo_isBoard mo_width mo_height mo_person mo_moves mo_pushes mo_floor mo_goals mo_boxes mo_newFloor mo_newGoals mo_newBoxes mo_newPerson mo_newWidth mo_kept hDO mo_many mo_taken mo_length hXB hXC hXF hXY hXS hXP hFA hLE, cJ G hXB 10001 aXB, cI G hXC 10001 aXC, cI G hXF 10001 aXF, cI G hXY 10001 aXY, cI G hXS 32768 aXS, cI G hXP 10001 aXP] H → va_D A [cMO hMO mo_thrown mo_size hTM mo_isBoard mo_width mo_height mo_person mo_moves mo_pushes mo_floor mo_goals mo_boxes mo_newFloor mo_newGoals mo_newBoxes mo_newPerson mo_newWidth mo_kept hDO mo_many mo_taken mo_length hXB hXC hXF hXY hXS hXP hFA hLE, cJ G hXB 10001 aXB, cI G hXC 10001 aXC, cI G hXF 10001 aXF, cI G hXY 10001 aXY, cI G hXS 32768 aXS, cI G hXP 10001 aXP] → va_S A s.heap H locs → lv_has ls 5 [(0, .ref hMO), (3, .int v3), (4, .int v4)] → W p l e rm_MO_search s m args below meth c H locs 0 0 (MQ below (gQi G (fun (r : Int32) (u : Int32 × Int32 × Int32 × Int32 × (Nat → Int64) × (Nat → Int32) × (Nat → Int32) × (Nat → Int32) × (Nat → Int32) × (Nat → Int32)) => post r u.1 u.2.1 u.2.2.1 u.2.2.2.1 u.2.2.2.2.1 u.2.2.2.2.2.1 u.2.2.2.2.2.2.1 u.2.2.2.2.2.2.2.1 u.2.2.2.2.2.2.2.2.1 u.2.2.2.2.2.2.2.2.2) (fun (u : Int32 × Int32 × Int32 × Int32 × (Nat → Int64) × (Nat → Int32) × (Nat → Int32) × (Nat → Int32) × (Nat → Int32) × (Nat → Int32)) => [cMO hMO u.1 mo_size hTM mo_isBoard mo_width mo_height mo_person mo_moves mo_pushes mo_floor mo_goals mo_boxes mo_newFloor mo_newGoals mo_newBoxes mo_newPerson mo_newWidth mo_kept hDO u.2.1 u.2.2.1 u.2.2.2.1 hXB hXC hXF hXY hXS hXP hFA hLE, cJ G hXB 10001 u.2.2.2.2.1, cI G hXC 10001 u.2.2.2.2.2.1, cI G hXF 10001 u.2.2.2.2.2.2.1, cI G hXY 10001 u.2.2.2.2.2.2.2.1, cI G hXS 32768 u.2.2.2.2.2.2.2.2.1, cI G hXP 10001 u.2.2.2.2.2.2.2.2.2]) A) args s 0 0 A) (F0 m 96 ls []) := by
  intro n
  induction n with
  | zero => intro mo_thrown mo_many mo_taken mo_length aXB aXC aXF aXY aXS aXP v3 v4 H locs ls h _ _ _ _; exact h.elim
  | succ n ih =>
    intro mo_thrown mo_many mo_taken mo_length aXB aXC aXF aXY aXS aXP v3 v4 H locs ls h hP hD hS hl
    unfold MO_search_96 at h
    refine lv_iload X.1 X.2.1 dX6_search_96 (lv_at hl 2 rfl) ?_
    refine lv_if_le (tgt := 129) X.1 X.2.1 dX6_search_98 (by decide) (fun hc => ?_) (fun hc => ?_)
    · replace h := Eq.mp (if_pos hc) h
      refine lv_aload_n X.1 X.2.1 dX6_search_129 rfl (lv_at hl 0 rfl) ?_
      refine g_get X hP 0 6 21 (v := .int mo_length) rfl rfl inX6 (by decide) fl_X6_186 rfl dX6_search_130 ?_
      exact g_iret X (mo_thrown, mo_many, mo_taken, mo_length, aXB, aXC, aXF, aXY, aXS, aXP) h hP hD hS dX6_search_133
    · replace h := Eq.mp (if_neg hc) h
      refine lv_iinc (v := (v3 + (-1 : Int32))) (lv' := [(3, .int (v3 + (-1 : Int32))), (0, .ref hMO), (4, .int v4)]) X.1 X.2.1 dX6_search_101 hl (k := 1) rfl rfl (by decide) rfl (fun ls hl => ?_)
      refine lv_aload_n X.1 X.2.1 dX6_search_104 rfl (lv_at hl 1 rfl) ?_
      refine g_get X hP 0 6 27 (v := .ref hXP) rfl rfl inX6 (by decide) fl_X6_33 rfl dX6_search_105 ?_
      refine lv_iload_n X.1 X.2.1 dX6_search_108 rfl (lv_at hl 0 rfl) ?_
      refine lv_aload_n X.1 X.2.1 dX6_search_109 rfl (lv_at hl 1 rfl) ?_
      refine g_get X hP 0 6 25 (v := .ref hXY) rfl rfl inX6 (by decide) fl_X6_26 rfl dX6_search_110 ?_
      refine lv_iload X.1 X.2.1 dX6_search_113 (lv_at hl 2 rfl) ?_
      obtain ⟨hin, h⟩ := h
      refine va_iald (D := G.1) X.1 X.2.1 X.k.1 hP 4 0 rfl rfl hin dX6_search_115 ?_
      refine lv_topi (fun x_1 e_x_1 => ?_)
      replace h := h x_1 e_x_1
      obtain ⟨hin, h⟩ := h
      refine g_ist X hP hD hS 6 rfl hin dX6_search_116 (fun aXP_2 e_aXP_2 H locs hP hD hS => ?_)
      replace h := h aXP_2 e_aXP_2
      replace hP : va_P G.1 gCl [cMO hMO mo_thrown mo_size hTM mo_isBoard mo_width mo_height mo_person mo_moves mo_pushes mo_floor mo_goals mo_boxes mo_newFloor mo_newGoals mo_newBoxes mo_newPerson mo_newWidth mo_kept hDO mo_many mo_taken mo_length hXB hXC hXF hXY hXS hXP hFA hLE, cJ G hXB 10001 aXB, cI G hXC 10001 aXC, cI G hXF 10001 aXF, cI G hXY 10001 aXY, cI G hXS 32768 aXS, cI G hXP 10001 aXP_2] H := hP
      replace hD : va_D A [cMO hMO mo_thrown mo_size hTM mo_isBoard mo_width mo_height mo_person mo_moves mo_pushes mo_floor mo_goals mo_boxes mo_newFloor mo_newGoals mo_newBoxes mo_newPerson mo_newWidth mo_kept hDO mo_many mo_taken mo_length hXB hXC hXF hXY hXS hXP hFA hLE, cJ G hXB 10001 aXB, cI G hXC 10001 aXC, cI G hXF 10001 aXF, cI G hXY 10001 aXY, cI G hXS 32768 aXS, cI G hXP 10001 aXP_2] := hD
      refine lv_aload_n X.1 X.2.1 dX6_search_117 rfl (lv_at hl 1 rfl) ?_
      refine g_get X hP 0 6 24 (v := .ref hXF) rfl rfl inX6 (by decide) fl_X6_23 rfl dX6_search_118 ?_
      refine lv_iload X.1 X.2.1 dX6_search_121 (lv_at hl 2 rfl) ?_
      obtain ⟨hin, h⟩ := h
      refine va_iald (D := G.1) X.1 X.2.1 X.k.1 hP 3 0 rfl rfl hin dX6_search_123 ?_
      refine lv_topi (fun v4_3 e_v4_3 => ?_)
      replace h := h v4_3 e_v4_3
      refine lv_istore (lv' := [(4, .int v4_3), (3, .int (v3 + (-1 : Int32))), (0, .ref hMO)]) X.1 X.2.1 dX6_search_124 hl (by decide) rfl (fun ls hl => ?_)
      refine lv_goto (tgt := 96) X.1 X.2.1 dX6_search_126 (by decide) ?_
      exact ih mo_thrown mo_many mo_taken mo_length aXB aXC aXF aXY aXS aXP_2 (v3 + (-1 : Int32)) v4_3 _ _ _ h hP hD hS (lv_sub hl [2, 1, 0] rfl)
set_option maxHeartbeats 4000000 in
set_option maxRecDepth 100000 in
theorem s_MO_search_64 {p : Program} {l : Launch} {e : Env} {s : State} {m : MethodId} {args : Array Value} {below : List Frame} {meth : Method} {c : Code} {G : gEnv} {A : Nat → Prop} {hMO : Nat} {hTM : Nat} {hDO : Nat} {hXB : Nat} {hXC : Nat} {hXF : Nat} {hXY : Nat} {hXS : Nat} {hXP : Nat} {hFA : Nat} {hLE : Nat} {mo_size : Int32} {mo_moves : Int32} {mo_pushes : Int32} {mo_newFloor : Int64} {mo_newGoals : Int64} {mo_newBoxes : Int64} {mo_newPerson : Int32} {mo_newWidth : Int32} {mo_kept : Int32} {mo_isBoard : Int32} {mo_width : Int32} {mo_height : Int32} {mo_person : Int32} {mo_floor : Int64} {mo_goals : Int64} {mo_boxes : Int64} {post : Int32 → Int32 → Int32 → Int32 → Int32 → (Nat → Int64) → (Nat → Int32) → (Nat → Int32) → (Nat → Int32) → (Nat → Int32) → (Nat → Int32) → Prop} (X : gX p m meth c cX6_search 5 RX6 (some .int) s args G A)  : ∀ (n : Nat) (mo_thrown : Int32) (mo_many : Int32) (mo_taken : Int32) (mo_length : Int32) (aXB : (Nat → Int64)) (aXC : (Nat → Int32)) (aXF : (Nat → Int32)) (aXY : (Nat → Int32)) (aXS : (Nat → Int32)) (aXP : (Nat → Int32)) (v2 : Int32) (v3 : Int32) (H : Heap) (locs : List Loc) (ls : Array Slot), MO_search_64 mo_isBoard mo_width mo_height mo_person mo_floor mo_goals mo_boxes post n mo_thrown mo_many mo_taken mo_length aXB aXC aXF aXY aXS aXP v2 v3 → va_P G.1 gCl [cMO hMO mo_thrown mo_size hTM mo_isBoard mo_width mo_height mo_person mo_moves mo_pushes mo_floor mo_goals mo_boxes mo_newFloor mo_newGoals mo_newBoxes mo_newPerson mo_newWidth mo_kept hDO mo_many mo_taken mo_length hXB hXC hXF hXY hXS hXP hFA hLE, cJ G hXB 10001 aXB, cI G hXC 10001 aXC, cI G hXF 10001 aXF, cI G hXY 10001 aXY, cI G hXS 32768 aXS, cI G hXP 10001 aXP] H → va_D A [cMO hMO mo_thrown mo_size hTM mo_isBoard mo_width mo_height mo_person mo_moves mo_pushes mo_floor mo_goals mo_boxes mo_newFloor mo_newGoals mo_newBoxes mo_newPerson mo_newWidth mo_kept hDO mo_many mo_taken mo_length hXB hXC hXF hXY hXS hXP hFA hLE, cJ G hXB 10001 aXB, cI G hXC 10001 aXC, cI G hXF 10001 aXF, cI G hXY 10001 aXY, cI G hXS 32768 aXS, cI G hXP 10001 aXP] → va_S A s.heap H locs → lv_has ls 5 [(0, .ref hMO), (2, .int v2), (3, .int v3)] → W p l e rm_MO_search s m args below meth c H locs 0 0 (MQ below (gQi G (fun (r : Int32) (u : Int32 × Int32 × Int32 × Int32 × (Nat → Int64) × (Nat → Int32) × (Nat → Int32) × (Nat → Int32) × (Nat → Int32) × (Nat → Int32)) => post r u.1 u.2.1 u.2.2.1 u.2.2.2.1 u.2.2.2.2.1 u.2.2.2.2.2.1 u.2.2.2.2.2.2.1 u.2.2.2.2.2.2.2.1 u.2.2.2.2.2.2.2.2.1 u.2.2.2.2.2.2.2.2.2) (fun (u : Int32 × Int32 × Int32 × Int32 × (Nat → Int64) × (Nat → Int32) × (Nat → Int32) × (Nat → Int32) × (Nat → Int32) × (Nat → Int32)) => [cMO hMO u.1 mo_size hTM mo_isBoard mo_width mo_height mo_person mo_moves mo_pushes mo_floor mo_goals mo_boxes mo_newFloor mo_newGoals mo_newBoxes mo_newPerson mo_newWidth mo_kept hDO u.2.1 u.2.2.1 u.2.2.2.1 hXB hXC hXF hXY hXS hXP hFA hLE, cJ G hXB 10001 u.2.2.2.2.1, cI G hXC 10001 u.2.2.2.2.2.1, cI G hXF 10001 u.2.2.2.2.2.2.1, cI G hXY 10001 u.2.2.2.2.2.2.2.1, cI G hXS 32768 u.2.2.2.2.2.2.2.2.1, cI G hXP 10001 u.2.2.2.2.2.2.2.2.2]) A) args s 0 0 A) (F0 m 64 ls []) := by
  intro n
  induction n with
  | zero => intro mo_thrown mo_many mo_taken mo_length aXB aXC aXF aXY aXS aXP v2 v3 H locs ls h _ _ _ _; exact h.elim
  | succ n ih =>
    intro mo_thrown mo_many mo_taken mo_length aXB aXC aXF aXY aXS aXP v2 v3 H locs ls h hP hD hS hl
    unfold MO_search_64 at h
    refine lv_iload_n X.1 X.2.1 dX6_search_64 rfl (lv_at hl 2 rfl) ?_
    refine lv_if_le (tgt := 88) X.1 X.2.1 dX6_search_65 (by decide) (fun hc => ?_) (fun hc => ?_)
    · replace h := Eq.mp (if_pos hc) h
      refine lv_aload_n X.1 X.2.1 dX6_search_88 rfl (lv_at hl 0 rfl) ?_
      refine g_get X hP 0 6 21 (v := .int mo_length) rfl rfl inX6 (by decide) fl_X6_186 rfl dX6_search_89 ?_
      refine lv_istore_n (lv' := [(3, .int mo_length), (0, .ref hMO), (2, .int v2)]) X.1 X.2.1 dX6_search_92 rfl hl (by decide) rfl (fun ls hl => ?_)
      refine lv_iload_n X.1 X.2.1 dX6_search_93 rfl (lv_at hl 2 rfl) ?_
      refine lv_istore (lv' := [(4, .int v2), (3, .int mo_length), (0, .ref hMO), (2, .int v2)]) X.1 X.2.1 dX6_search_94 hl (by decide) rfl (fun ls hl => ?_)
      obtain ⟨n', h⟩ := h
      exact s_MO_search_96 X  n' mo_thrown mo_many mo_taken mo_length aXB aXC aXF aXY aXS aXP mo_length v2 _ _ _ h hP hD hS (lv_sub hl [2, 1, 0] rfl)
    · replace h := Eq.mp (if_neg hc) h
      refine lv_aload_n X.1 X.2.1 dX6_search_68 rfl (lv_at hl 0 rfl) ?_
      refine lv_dup X.1 X.2.1 dX6_search_69 rfl ?_
      refine g_get X hP 0 6 21 (v := .int mo_length) rfl rfl inX6 (by decide) fl_X6_186 rfl dX6_search_70 ?_
      refine lv_iconst (v := (1 : Int32)) X.1 X.2.1 dX6_search_73 (by decide) ?_
      refine lv_iadd X.1 X.2.1 dX6_search_74 ?_
      refine lv_topi (fun mo_length_1 e_mo_length_1 => ?_)
      replace h := h mo_length_1 e_mo_length_1
      refine g_put X hP hD hS 0 6 21 (v := .int mo_length_1) rfl rfl inX6 tyX6 tyX6_ok nmX6 (by decide) fl_X6_186 rfl rfl rfl rfl (Nat.le_of_ble_eq_true rfl) dX6_search_75 (fun H locs hP hD hS => ?_)
      replace hP : va_P G.1 gCl [cMO hMO mo_thrown mo_size hTM mo_isBoard mo_width mo_height mo_person mo_moves mo_pushes mo_floor mo_goals mo_boxes mo_newFloor mo_newGoals mo_newBoxes mo_newPerson mo_newWidth mo_kept hDO mo_many mo_taken mo_length_1 hXB hXC hXF hXY hXS hXP hFA hLE, cJ G hXB 10001 aXB, cI G hXC 10001 aXC, cI G hXF 10001 aXF, cI G hXY 10001 aXY, cI G hXS 32768 aXS, cI G hXP 10001 aXP] H := hP
      replace hD : va_D A [cMO hMO mo_thrown mo_size hTM mo_isBoard mo_width mo_height mo_person mo_moves mo_pushes mo_floor mo_goals mo_boxes mo_newFloor mo_newGoals mo_newBoxes mo_newPerson mo_newWidth mo_kept hDO mo_many mo_taken mo_length_1 hXB hXC hXF hXY hXS hXP hFA hLE, cJ G hXB 10001 aXB, cI G hXC 10001 aXC, cI G hXF 10001 aXF, cI G hXY 10001 aXY, cI G hXS 32768 aXS, cI G hXP 10001 aXP] := hD
      refine lv_aload_n X.1 X.2.1 dX6_search_78 rfl (lv_at hl 0 rfl) ?_
      refine g_get X hP 0 6 24 (v := .ref hXF) rfl rfl inX6 (by decide) fl_X6_23 rfl dX6_search_79 ?_
      refine lv_iload_n X.1 X.2.1 dX6_search_82 rfl (lv_at hl 2 rfl) ?_
      obtain ⟨hin, h⟩ := h
      refine va_iald (D := G.1) X.1 X.2.1 X.k.1 hP 3 0 rfl rfl hin dX6_search_83 ?_
      refine lv_topi (fun v3_2 e_v3_2 => ?_)
      replace h := h v3_2 e_v3_2
      refine lv_istore_n (lv' := [(3, .int v3_2), (0, .ref hMO), (2, .int v2)]) X.1 X.2.1 dX6_search_84 rfl hl (by decide) rfl (fun ls hl => ?_)
      refine lv_goto (tgt := 64) X.1 X.2.1 dX6_search_85 (by decide) ?_
      exact ih mo_thrown mo_many mo_taken mo_length_1 aXB aXC aXF aXY aXS aXP v2 v3_2 _ _ _ h hP hD hS (lv_sub hl [1, 2, 0] rfl)
set_option maxHeartbeats 4000000 in
set_option maxRecDepth 100000 in
theorem s_MO_search_48 {p : Program} {l : Launch} {e : Env} {s : State} {m : MethodId} {args : Array Value} {below : List Frame} {meth : Method} {c : Code} {G : gEnv} {A : Nat → Prop} {hMO : Nat} {hTM : Nat} {hDO : Nat} {hXB : Nat} {hXC : Nat} {hXF : Nat} {hXY : Nat} {hXS : Nat} {hXP : Nat} {hFA : Nat} {hLE : Nat} {mo_size : Int32} {mo_moves : Int32} {mo_pushes : Int32} {mo_newFloor : Int64} {mo_newGoals : Int64} {mo_newBoxes : Int64} {mo_newPerson : Int32} {mo_newWidth : Int32} {mo_kept : Int32} {mo_isBoard : Int32} {mo_width : Int32} {mo_height : Int32} {mo_person : Int32} {mo_floor : Int64} {mo_goals : Int64} {mo_boxes : Int64} {post : Int32 → Int32 → Int32 → Int32 → Int32 → (Nat → Int64) → (Nat → Int32) → (Nat → Int32) → (Nat → Int32) → (Nat → Int32) → (Nat → Int32) → Prop} (X : gX p m meth c cX6_search 5 RX6 (some .int) s args G A)  : ∀ (mo_thrown : Int32) (mo_many : Int32) (mo_taken : Int32) (mo_length : Int32) (aXB : (Nat → Int64)) (aXC : (Nat → Int32)) (aXF : (Nat → Int32)) (aXY : (Nat → Int32)) (aXS : (Nat → Int32)) (aXP : (Nat → Int32)) (v2 : Int32) (t1 : Int32) (H : Heap) (locs : List Loc) (ls : Array Slot), MO_search_48 mo_isBoard mo_width mo_height mo_person mo_floor mo_goals mo_boxes post mo_thrown mo_many mo_taken mo_length aXB aXC aXF aXY aXS aXP v2 t1 → va_P G.1 gCl [cMO hMO mo_thrown mo_size hTM mo_isBoard mo_width mo_height mo_person mo_moves mo_pushes mo_floor mo_goals mo_boxes mo_newFloor mo_newGoals mo_newBoxes mo_newPerson mo_newWidth mo_kept hDO mo_many mo_taken mo_length hXB hXC hXF hXY hXS hXP hFA hLE, cJ G hXB 10001 aXB, cI G hXC 10001 aXC, cI G hXF 10001 aXF, cI G hXY 10001 aXY, cI G hXS 32768 aXS, cI G hXP 10001 aXP] H → va_D A [cMO hMO mo_thrown mo_size hTM mo_isBoard mo_width mo_height mo_person mo_moves mo_pushes mo_floor mo_goals mo_boxes mo_newFloor mo_newGoals mo_newBoxes mo_newPerson mo_newWidth mo_kept hDO mo_many mo_taken mo_length hXB hXC hXF hXY hXS hXP hFA hLE, cJ G hXB 10001 aXB, cI G hXC 10001 aXC, cI G hXF 10001 aXF, cI G hXY 10001 aXY, cI G hXS 32768 aXS, cI G hXP 10001 aXP] → va_S A s.heap H locs → lv_has ls 5 [(0, .ref hMO), (2, .int v2)] → W p l e rm_MO_search s m args below meth c H locs 0 0 (MQ below (gQi G (fun (r : Int32) (u : Int32 × Int32 × Int32 × Int32 × (Nat → Int64) × (Nat → Int32) × (Nat → Int32) × (Nat → Int32) × (Nat → Int32) × (Nat → Int32)) => post r u.1 u.2.1 u.2.2.1 u.2.2.2.1 u.2.2.2.2.1 u.2.2.2.2.2.1 u.2.2.2.2.2.2.1 u.2.2.2.2.2.2.2.1 u.2.2.2.2.2.2.2.2.1 u.2.2.2.2.2.2.2.2.2) (fun (u : Int32 × Int32 × Int32 × Int32 × (Nat → Int64) × (Nat → Int32) × (Nat → Int32) × (Nat → Int32) × (Nat → Int32) × (Nat → Int32)) => [cMO hMO u.1 mo_size hTM mo_isBoard mo_width mo_height mo_person mo_moves mo_pushes mo_floor mo_goals mo_boxes mo_newFloor mo_newGoals mo_newBoxes mo_newPerson mo_newWidth mo_kept hDO u.2.1 u.2.2.1 u.2.2.2.1 hXB hXC hXF hXY hXS hXP hFA hLE, cJ G hXB 10001 u.2.2.2.2.1, cI G hXC 10001 u.2.2.2.2.2.1, cI G hXF 10001 u.2.2.2.2.2.2.1, cI G hXY 10001 u.2.2.2.2.2.2.2.1, cI G hXS 32768 u.2.2.2.2.2.2.2.2.1, cI G hXP 10001 u.2.2.2.2.2.2.2.2.2]) A) args s 0 0 A) (F0 m 48 ls [.int t1, .ref hMO]) := by
  intro mo_thrown mo_many mo_taken mo_length aXB aXC aXF aXY aXS aXP v2 t1 H locs ls h hP hD hS hl
  unfold MO_search_48 at h
  refine g_put X hP hD hS 0 6 20 (v := .int t1) rfl rfl inX6 tyX6 tyX6_ok nmX6 (by decide) fl_X6_183 rfl rfl rfl rfl (Nat.le_of_ble_eq_true rfl) dX6_search_48 (fun H locs hP hD hS => ?_)
  replace hP : va_P G.1 gCl [cMO hMO mo_thrown mo_size hTM mo_isBoard mo_width mo_height mo_person mo_moves mo_pushes mo_floor mo_goals mo_boxes mo_newFloor mo_newGoals mo_newBoxes mo_newPerson mo_newWidth mo_kept hDO mo_many t1 mo_length hXB hXC hXF hXY hXS hXP hFA hLE, cJ G hXB 10001 aXB, cI G hXC 10001 aXC, cI G hXF 10001 aXF, cI G hXY 10001 aXY, cI G hXS 32768 aXS, cI G hXP 10001 aXP] H := hP
  replace hD : va_D A [cMO hMO mo_thrown mo_size hTM mo_isBoard mo_width mo_height mo_person mo_moves mo_pushes mo_floor mo_goals mo_boxes mo_newFloor mo_newGoals mo_newBoxes mo_newPerson mo_newWidth mo_kept hDO mo_many t1 mo_length hXB hXC hXF hXY hXS hXP hFA hLE, cJ G hXB 10001 aXB, cI G hXC 10001 aXC, cI G hXF 10001 aXF, cI G hXY 10001 aXY, cI G hXS 32768 aXS, cI G hXP 10001 aXP] := hD
  refine lv_aload_n X.1 X.2.1 dX6_search_51 rfl (lv_at hl 0 rfl) ?_
  refine lv_iconst (v := (0 : Int32)) X.1 X.2.1 dX6_search_52 (by decide) ?_
  refine g_put X hP hD hS 0 6 21 (v := .int (0 : Int32)) rfl rfl inX6 tyX6 tyX6_ok nmX6 (by decide) fl_X6_186 rfl rfl rfl rfl (Nat.le_of_ble_eq_true rfl) dX6_search_53 (fun H locs hP hD hS => ?_)
  replace hP : va_P G.1 gCl [cMO hMO mo_thrown mo_size hTM mo_isBoard mo_width mo_height mo_person mo_moves mo_pushes mo_floor mo_goals mo_boxes mo_newFloor mo_newGoals mo_newBoxes mo_newPerson mo_newWidth mo_kept hDO mo_many t1 (0 : Int32) hXB hXC hXF hXY hXS hXP hFA hLE, cJ G hXB 10001 aXB, cI G hXC 10001 aXC, cI G hXF 10001 aXF, cI G hXY 10001 aXY, cI G hXS 32768 aXS, cI G hXP 10001 aXP] H := hP
  replace hD : va_D A [cMO hMO mo_thrown mo_size hTM mo_isBoard mo_width mo_height mo_person mo_moves mo_pushes mo_floor mo_goals mo_boxes mo_newFloor mo_newGoals mo_newBoxes mo_newPerson mo_newWidth mo_kept hDO mo_many t1 (0 : Int32) hXB hXC hXF hXY hXS hXP hFA hLE, cJ G hXB 10001 aXB, cI G hXC 10001 aXC, cI G hXF 10001 aXF, cI G hXY 10001 aXY, cI G hXS 32768 aXS, cI G hXP 10001 aXP] := hD
  refine lv_iload_n X.1 X.2.1 dX6_search_56 rfl (lv_at hl 1 rfl) ?_
  refine lv_if_ge (tgt := 62) X.1 X.2.1 dX6_search_57 (by decide) (fun hc => ?_) (fun hc => ?_)
  · replace h := Eq.mp (if_pos hc) h
    refine lv_iload_n X.1 X.2.1 dX6_search_62 rfl (lv_at hl 1 rfl) ?_
    refine lv_istore_n (lv' := [(3, .int v2), (0, .ref hMO), (2, .int v2)]) X.1 X.2.1 dX6_search_63 rfl hl (by decide) rfl (fun ls hl => ?_)
    obtain ⟨n', h⟩ := h
    exact s_MO_search_64 X  n' mo_thrown mo_many t1 (0 : Int32) aXB aXC aXF aXY aXS aXP v2 v2 _ _ _ h hP hD hS (lv_sub hl [1, 2, 0] rfl)
  · replace h := Eq.mp (if_neg hc) h
    refine lv_iload_n X.1 X.2.1 dX6_search_60 rfl (lv_at hl 1 rfl) ?_
    exact g_iret X (mo_thrown, mo_many, t1, (0 : Int32), aXB, aXC, aXF, aXY, aXS, aXP) h hP hD hS dX6_search_61
set_option maxHeartbeats 4000000 in
set_option maxRecDepth 100000 in
theorem c_MO_search (l : Launch) (G : gEnv) (hMO : Nat) (hTM : Nat) (hDO : Nat) (hXB : Nat) (hXC : Nat) (hXF : Nat) (hXY : Nat) (hXS : Nat) (hXP : Nat) (hFA : Nat) (hLE : Nat) (mo_thrown : Int32) (mo_size : Int32) (mo_isBoard : Int32) (mo_width : Int32) (mo_height : Int32) (mo_person : Int32) (mo_moves : Int32) (mo_pushes : Int32) (mo_floor : Int64) (mo_goals : Int64) (mo_boxes : Int64) (mo_newFloor : Int64) (mo_newGoals : Int64) (mo_newBoxes : Int64) (mo_newPerson : Int32) (mo_newWidth : Int32) (mo_kept : Int32) (mo_many : Int32) (mo_taken : Int32) (mo_length : Int32) (aXB : Nat → Int64) (aXC : Nat → Int32) (aXF : Nat → Int32) (aXY : Nat → Int32) (aXS : Nat → Int32) (aXP : Nat → Int32) (v1 : Int32) (post : Int32 → Int32 → Int32 → Int32 → Int32 → (Nat → Int64) → (Nat → Int32) → (Nat → Int32) → (Nat → Int32) → (Nat → Int32) → (Nat → Int32) → Prop) (h : MO_search mo_isBoard mo_width mo_height mo_person mo_floor mo_goals mo_boxes mo_thrown mo_many mo_taken mo_length aXB aXC aXF aXY aXS aXP v1 post) (sz : Nat) : Met l yX6_search (Cond.code yX6_search cX6_search 5 (some .int) :: wAll) (rm_MO_search) (gPc G [.ref hMO, .int v1] [cMO hMO mo_thrown mo_size hTM mo_isBoard mo_width mo_height mo_person mo_moves mo_pushes mo_floor mo_goals mo_boxes mo_newFloor mo_newGoals mo_newBoxes mo_newPerson mo_newWidth mo_kept hDO mo_many mo_taken mo_length hXB hXC hXF hXY hXS hXP hFA hLE, cJ G hXB 10001 aXB, cI G hXC 10001 aXC, cI G hXF 10001 aXF, cI G hXY 10001 aXY, cI G hXS 32768 aXS, cI G hXP 10001 aXP] sz) (gQi G (fun (r : Int32) (u : Int32 × Int32 × Int32 × Int32 × (Nat → Int64) × (Nat → Int32) × (Nat → Int32) × (Nat → Int32) × (Nat → Int32) × (Nat → Int32)) => post r u.1 u.2.1 u.2.2.1 u.2.2.2.1 u.2.2.2.2.1 u.2.2.2.2.2.1 u.2.2.2.2.2.2.1 u.2.2.2.2.2.2.2.1 u.2.2.2.2.2.2.2.2.1 u.2.2.2.2.2.2.2.2.2) (fun (u : Int32 × Int32 × Int32 × Int32 × (Nat → Int64) × (Nat → Int32) × (Nat → Int32) × (Nat → Int32) × (Nat → Int32) × (Nat → Int32)) => [cMO hMO u.1 mo_size hTM mo_isBoard mo_width mo_height mo_person mo_moves mo_pushes mo_floor mo_goals mo_boxes mo_newFloor mo_newGoals mo_newBoxes mo_newPerson mo_newWidth mo_kept hDO u.2.1 u.2.2.1 u.2.2.2.1 hXB hXC hXF hXY hXS hXP hFA hLE, cJ G hXB 10001 u.2.2.2.2.1, cI G hXC 10001 u.2.2.2.2.2.1, cI G hXF 10001 u.2.2.2.2.2.2.1, cI G hXY 10001 u.2.2.2.2.2.2.2.1, cI G hXS 32768 u.2.2.2.2.2.2.2.2.1, cI G hXP 10001 u.2.2.2.2.2.2.2.2.2]) (va_A [cMO hMO mo_thrown mo_size hTM mo_isBoard mo_width mo_height mo_person mo_moves mo_pushes mo_floor mo_goals mo_boxes mo_newFloor mo_newGoals mo_newBoxes mo_newPerson mo_newWidth mo_kept hDO mo_many mo_taken mo_length hXB hXC hXF hXY hXS hXP hFA hLE, cJ G hXB 10001 aXB, cI G hXC 10001 aXC, cI G hXF 10001 aXF, cI G hXY 10001 aXY, cI G hXS 32768 aXS, cI G hXP 10001 aXP] sz)) 0 0 (va_A [cMO hMO mo_thrown mo_size hTM mo_isBoard mo_width mo_height mo_person mo_moves mo_pushes mo_floor mo_goals mo_boxes mo_newFloor mo_newGoals mo_newBoxes mo_newPerson mo_newWidth mo_kept hDO mo_many mo_taken mo_length hXB hXC hXF hXY hXS hXP hFA hLE, cJ G hXB 10001 aXB, cI G hXC 10001 aXC, cI G hXF 10001 aXF, cI G hXY 10001 aXY, cI G hXS 32768 aXS, cI G hXP 10001 aXP] sz) := by
  refine Met.ofW (cc := cX6_search) (maxL := 5) (ret := (some .int)) (by decide) rfl ?_
  intro p e s m args below meth c s₁ B hml hv
  obtain ⟨rfl, hsz, hP, hK, hD0⟩ := hv
  subst hsz
  have X := gX.ofB (ws := [cMO hMO mo_thrown mo_size hTM mo_isBoard mo_width mo_height mo_person mo_moves mo_pushes mo_floor mo_goals mo_boxes mo_newFloor mo_newGoals mo_newBoxes mo_newPerson mo_newWidth mo_kept hDO mo_many mo_taken mo_length hXB hXC hXF hXY hXS hXP hFA hLE, cJ G hXB 10001 aXB, cI G hXC 10001 aXC, cI G hXF 10001 aXF, cI G hXY 10001 aXY, cI G hXS 32768 aXS, cI G hXP 10001 aXP]) B hml hK hD0
  have hD := hD0.self (sz := s.heap.size)
  generalize hAe : va_A [cMO hMO mo_thrown mo_size hTM mo_isBoard mo_width mo_height mo_person mo_moves mo_pushes mo_floor mo_goals mo_boxes mo_newFloor mo_newGoals mo_newBoxes mo_newPerson mo_newWidth mo_kept hDO mo_many mo_taken mo_length hXB hXC hXF hXY hXS hXP hFA hLE, cJ G hXB 10001 aXB, cI G hXC 10001 aXC, cI G hXF 10001 aXF, cI G hXY 10001 aXY, cI G hXS 32768 aXS, cI G hXP 10001 aXP] s.heap.size = A at X hD ⊢
  have hS : va_S A s.heap s.heap [] := va_S.rf
  have hl := lv_entry ([.ref hMO, .int v1]) (n := 5) (Nat.le_of_ble_eq_true rfl)
  rw [lg_entry_eq]
  generalize (lg_sl ([.ref hMO, .int v1]) ++ List.replicate (5 - (lg_sl ([.ref hMO, .int v1])).length) Slot.unset).toArray = ls at hl ⊢
  have hl : lv_has ls 5 [(0, .ref hMO), (1, .int v1)] := hl
  dsimp only [headSpec]
  unfold MO_search at h
  refine lv_aload_n X.1 X.2.1 dX6_search_0 rfl (lv_at hl 0 rfl) ?_
  refine lv_iconst (v := (0 : Int32)) X.1 X.2.1 dX6_search_1 (by decide) ?_
  refine g_put X hP hD hS 0 6 0 (v := .int (0 : Int32)) rfl rfl inX6 tyX6 tyX6_ok nmX6 (by decide) fl_X6_42 rfl rfl rfl rfl (Nat.le_of_ble_eq_true rfl) dX6_search_2 (fun H locs hP hD hS => ?_)
  replace hP : va_P G.1 gCl [cMO hMO (0 : Int32) mo_size hTM mo_isBoard mo_width mo_height mo_person mo_moves mo_pushes mo_floor mo_goals mo_boxes mo_newFloor mo_newGoals mo_newBoxes mo_newPerson mo_newWidth mo_kept hDO mo_many mo_taken mo_length hXB hXC hXF hXY hXS hXP hFA hLE, cJ G hXB 10001 aXB, cI G hXC 10001 aXC, cI G hXF 10001 aXF, cI G hXY 10001 aXY, cI G hXS 32768 aXS, cI G hXP 10001 aXP] H := hP
  replace hD : va_D A [cMO hMO (0 : Int32) mo_size hTM mo_isBoard mo_width mo_height mo_person mo_moves mo_pushes mo_floor mo_goals mo_boxes mo_newFloor mo_newGoals mo_newBoxes mo_newPerson mo_newWidth mo_kept hDO mo_many mo_taken mo_length hXB hXC hXF hXY hXS hXP hFA hLE, cJ G hXB 10001 aXB, cI G hXC 10001 aXC, cI G hXF 10001 aXF, cI G hXY 10001 aXY, cI G hXS 32768 aXS, cI G hXP 10001 aXP] := hD
  refine lv_aload_n X.1 X.2.1 dX6_search_5 rfl (lv_at hl 0 rfl) ?_
  refine g_get X hP 0 6 3 (v := .int mo_isBoard) rfl rfl inX6 (by decide) fl_X6_83 rfl dX6_search_6 ?_
  refine lv_if_eq (tgt := 24) X.1 X.2.1 dX6_search_9 (by decide) (fun hc => ?_) (fun hc => ?_)
  · replace h := Eq.mp (if_pos hc) h
    refine lv_bipush (v := (-3 : Int32)) X.1 X.2.1 dX6_search_24 (by decide) ?_
    exact g_iret X ((0 : Int32), mo_many, mo_taken, mo_length, aXB, aXC, aXF, aXY, aXS, aXP) h hP hD hS dX6_search_26
  · replace h := Eq.mp (if_neg hc) h
    refine lv_iload_n X.1 X.2.1 dX6_search_12 rfl (lv_at hl 1 rfl) ?_
    refine lv_iconst (v := (1 : Int32)) X.1 X.2.1 dX6_search_13 (by decide) ?_
    refine lv_icmp_lt (tgt := 24) X.1 X.2.1 dX6_search_14 (by decide) (fun hc => ?_) (fun hc => ?_)
    · replace h := Eq.mp (if_pos hc) h
      refine lv_bipush (v := (-3 : Int32)) X.1 X.2.1 dX6_search_24 (by decide) ?_
      exact g_iret X ((0 : Int32), mo_many, mo_taken, mo_length, aXB, aXC, aXF, aXY, aXS, aXP) h hP hD hS dX6_search_26
    · replace h := Eq.mp (if_neg hc) h
      refine lv_iload_n X.1 X.2.1 dX6_search_17 rfl (lv_at hl 1 rfl) ?_
      refine lv_sipush (v := (10000 : Int32)) X.1 X.2.1 dX6_search_18 (by decide) ?_
      refine lv_icmp_le (tgt := 27) X.1 X.2.1 dX6_search_21 (by decide) (fun hc => ?_) (fun hc => ?_)
      · replace h := Eq.mp (if_pos hc) h
        refine lv_aload_n X.1 X.2.1 dX6_search_27 rfl (lv_at hl 0 rfl) ?_
        refine lv_iload_n X.1 X.2.1 dX6_search_28 rfl (lv_at hl 1 rfl) ?_
        refine g_ci (wr := [cI G hXP 10001 aXP]) X [0, 1, 2, 3, 4, 5] [6] (g_rV (As := [.int v1]) (rest := []) X (c_MO_spread l G hMO hTM hDO hXB hXC hXF hXY hXS hXP hFA hLE (0 : Int32) mo_size mo_isBoard mo_width mo_height mo_person mo_moves mo_pushes mo_floor mo_goals mo_boxes mo_newFloor mo_newGoals mo_newBoxes mo_newPerson mo_newWidth mo_kept mo_many mo_taken mo_length aXB aXC aXF aXY aXS v1 _ h _) lk_X6_180 rfl rfl ⟨Nat.le_of_ble_eq_true rfl, Nat.le_of_ble_eq_true rfl⟩ hP hD hS [0, 1, 2, 3, 4, 5] rfl rfl 0 6 rfl rfl rfl hl.1 rfl (Nat.le_of_ble_eq_true rfl) dX6_search_29 ⟨Nat.le_of_ble_eq_true rfl, Nat.le_of_ble_eq_true rfl⟩) hP hD hS rfl rfl rfl (by decide) (fun r_1 u H locs h hP hD hS => ?_)
        obtain ⟨mo_many_2, aXB_3, aXC_4, aXF_5, aXY_6, aXS_7⟩ := u
        try dsimp only at h
        replace hP := hP.sub (ws' := [cMO hMO (0 : Int32) mo_size hTM mo_isBoard mo_width mo_height mo_person mo_moves mo_pushes mo_floor mo_goals mo_boxes mo_newFloor mo_newGoals mo_newBoxes mo_newPerson mo_newWidth mo_kept hDO mo_many_2 mo_taken mo_length hXB hXC hXF hXY hXS hXP hFA hLE, cJ G hXB 10001 aXB_3, cI G hXC 10001 aXC_4, cI G hXF 10001 aXF_5, cI G hXY 10001 aXY_6, cI G hXS 32768 aXS_7, cI G hXP 10001 aXP]) [1, 2, 3, 4, 5, 6, 0] rfl
        replace hD := hD.sub (ws' := [cMO hMO (0 : Int32) mo_size hTM mo_isBoard mo_width mo_height mo_person mo_moves mo_pushes mo_floor mo_goals mo_boxes mo_newFloor mo_newGoals mo_newBoxes mo_newPerson mo_newWidth mo_kept hDO mo_many_2 mo_taken mo_length hXB hXC hXF hXY hXS hXP hFA hLE, cJ G hXB 10001 aXB_3, cI G hXC 10001 aXC_4, cI G hXF 10001 aXF_5, cI G hXY 10001 aXY_6, cI G hXS 32768 aXS_7, cI G hXP 10001 aXP]) [1, 2, 3, 4, 5, 6, 0] rfl rfl
        refine lv_istore_n (lv' := [(2, .int r_1), (0, .ref hMO), (1, .int v1)]) X.1 X.2.1 dX6_search_32 rfl hl (by decide) rfl (fun ls hl => ?_)
        refine lv_aload_n X.1 X.2.1 dX6_search_33 rfl (lv_at hl 1 rfl) ?_
        refine lv_iload_n X.1 X.2.1 dX6_search_34 rfl (lv_at hl 0 rfl) ?_
        refine lv_bipush (v := (-2 : Int32)) X.1 X.2.1 dX6_search_35 (by decide) ?_
        refine lv_icmp_ne (tgt := 44) X.1 X.2.1 dX6_search_37 (by decide) (fun hc => ?_) (fun hc => ?_)
        · replace h := Eq.mp (if_neg hc) h
          refine lv_aload_n X.1 X.2.1 dX6_search_44 rfl (lv_at hl 1 rfl) ?_
          refine g_get X hP 0 6 19 (v := .int mo_many_2) rfl rfl inX6 (by decide) fl_X6_173 rfl dX6_search_45 ?_
          exact s_MO_search_48 X  (0 : Int32) mo_many_2 mo_taken mo_length aXB_3 aXC_4 aXF_5 aXY_6 aXS_7 aXP r_1 mo_many_2 _ _ _ h hP hD hS (lv_sub hl [1, 0] rfl)
        · replace h := Eq.mp (if_pos hc) h
          refine lv_iload_n X.1 X.2.1 dX6_search_40 rfl (lv_at hl 2 rfl) ?_
          refine lv_goto (tgt := 48) X.1 X.2.1 dX6_search_41 (by decide) ?_
          exact s_MO_search_48 X  (0 : Int32) mo_many_2 mo_taken mo_length aXB_3 aXC_4 aXF_5 aXY_6 aXS_7 aXP r_1 v1 _ _ _ h hP hD hS (lv_sub hl [1, 0] rfl)
      · replace h := Eq.mp (if_neg hc) h
        refine lv_bipush (v := (-3 : Int32)) X.1 X.2.1 dX6_search_24 (by decide) ?_
        exact g_iret X ((0 : Int32), mo_many, mo_taken, mo_length, aXB, aXC, aXF, aXY, aXS, aXP) h hP hD hS dX6_search_26
abbrev rm_MO_push : Room := { frames := 0, cells := 0, slots := 0, locals := 0 }
set_option maxHeartbeats 4000000 in
set_option maxRecDepth 100000 in
theorem c_MO_push (l : Launch) (G : gEnv) (hMO : Nat) (hTM : Nat) (hDO : Nat) (hXB : Nat) (hXC : Nat) (hXF : Nat) (hXY : Nat) (hXS : Nat) (hXP : Nat) (hFA : Nat) (hLE : Nat) (mo_thrown : Int32) (mo_size : Int32) (mo_isBoard : Int32) (mo_width : Int32) (mo_height : Int32) (mo_person : Int32) (mo_moves : Int32) (mo_pushes : Int32) (mo_floor : Int64) (mo_goals : Int64) (mo_boxes : Int64) (mo_newFloor : Int64) (mo_newGoals : Int64) (mo_newBoxes : Int64) (mo_newPerson : Int32) (mo_newWidth : Int32) (mo_kept : Int32) (mo_many : Int32) (mo_taken : Int32) (mo_length : Int32) (aXP : Nat → Int32) (v1 : Int32) (post : Int32 → Int32 → Prop) (h : MO_push mo_length aXP mo_thrown v1 post) (sz : Nat) : Met l yX6_push (Cond.code yX6_push cX6_push 2 (some .int) :: wAll) (rm_MO_push) (gPc G [.ref hMO, .int v1] [cMO hMO mo_thrown mo_size hTM mo_isBoard mo_width mo_height mo_person mo_moves mo_pushes mo_floor mo_goals mo_boxes mo_newFloor mo_newGoals mo_newBoxes mo_newPerson mo_newWidth mo_kept hDO mo_many mo_taken mo_length hXB hXC hXF hXY hXS hXP hFA hLE, cI G hXP 10001 aXP] sz) (gQi G (fun (r : Int32) (u : Int32) => post r u) (fun (u : Int32) => [cMO hMO u mo_size hTM mo_isBoard mo_width mo_height mo_person mo_moves mo_pushes mo_floor mo_goals mo_boxes mo_newFloor mo_newGoals mo_newBoxes mo_newPerson mo_newWidth mo_kept hDO mo_many mo_taken mo_length hXB hXC hXF hXY hXS hXP hFA hLE, cI G hXP 10001 aXP]) (va_A [cMO hMO mo_thrown mo_size hTM mo_isBoard mo_width mo_height mo_person mo_moves mo_pushes mo_floor mo_goals mo_boxes mo_newFloor mo_newGoals mo_newBoxes mo_newPerson mo_newWidth mo_kept hDO mo_many mo_taken mo_length hXB hXC hXF hXY hXS hXP hFA hLE, cI G hXP 10001 aXP] sz)) 0 0 (va_A [cMO hMO mo_thrown mo_size hTM mo_isBoard mo_width mo_height mo_person mo_moves mo_pushes mo_floor mo_goals mo_boxes mo_newFloor mo_newGoals mo_newBoxes mo_newPerson mo_newWidth mo_kept hDO mo_many mo_taken mo_length hXB hXC hXF hXY hXS hXP hFA hLE, cI G hXP 10001 aXP] sz) := by
  refine Met.ofW (cc := cX6_push) (maxL := 2) (ret := (some .int)) (by decide) rfl ?_
  intro p e s m args below meth c s₁ B hml hv
  obtain ⟨rfl, hsz, hP, hK, hD0⟩ := hv
  subst hsz
  have X := gX.ofB (ws := [cMO hMO mo_thrown mo_size hTM mo_isBoard mo_width mo_height mo_person mo_moves mo_pushes mo_floor mo_goals mo_boxes mo_newFloor mo_newGoals mo_newBoxes mo_newPerson mo_newWidth mo_kept hDO mo_many mo_taken mo_length hXB hXC hXF hXY hXS hXP hFA hLE, cI G hXP 10001 aXP]) B hml hK hD0
  have hD := hD0.self (sz := s.heap.size)
  generalize hAe : va_A [cMO hMO mo_thrown mo_size hTM mo_isBoard mo_width mo_height mo_person mo_moves mo_pushes mo_floor mo_goals mo_boxes mo_newFloor mo_newGoals mo_newBoxes mo_newPerson mo_newWidth mo_kept hDO mo_many mo_taken mo_length hXB hXC hXF hXY hXS hXP hFA hLE, cI G hXP 10001 aXP] s.heap.size = A at X hD ⊢
  have hS : va_S A s.heap s.heap [] := va_S.rf
  have hl := lv_entry ([.ref hMO, .int v1]) (n := 2) (Nat.le_of_ble_eq_true rfl)
  rw [lg_entry_eq]
  generalize (lg_sl ([.ref hMO, .int v1]) ++ List.replicate (2 - (lg_sl ([.ref hMO, .int v1])).length) Slot.unset).toArray = ls at hl ⊢
  have hl : lv_has ls 2 [(0, .ref hMO), (1, .int v1)] := hl
  dsimp only [headSpec]
  unfold MO_push at h
  refine lv_aload_n X.1 X.2.1 dX6_push_0 rfl (lv_at hl 0 rfl) ?_
  refine lv_iconst (v := (0 : Int32)) X.1 X.2.1 dX6_push_1 (by decide) ?_
  refine g_put X hP hD hS 0 6 0 (v := .int (0 : Int32)) rfl rfl inX6 tyX6 tyX6_ok nmX6 (by decide) fl_X6_42 rfl rfl rfl rfl (Nat.le_of_ble_eq_true rfl) dX6_push_2 (fun H locs hP hD hS => ?_)
  replace hP : va_P G.1 gCl [cMO hMO (0 : Int32) mo_size hTM mo_isBoard mo_width mo_height mo_person mo_moves mo_pushes mo_floor mo_goals mo_boxes mo_newFloor mo_newGoals mo_newBoxes mo_newPerson mo_newWidth mo_kept hDO mo_many mo_taken mo_length hXB hXC hXF hXY hXS hXP hFA hLE, cI G hXP 10001 aXP] H := hP
  replace hD : va_D A [cMO hMO (0 : Int32) mo_size hTM mo_isBoard mo_width mo_height mo_person mo_moves mo_pushes mo_floor mo_goals mo_boxes mo_newFloor mo_newGoals mo_newBoxes mo_newPerson mo_newWidth mo_kept hDO mo_many mo_taken mo_length hXB hXC hXF hXY hXS hXP hFA hLE, cI G hXP 10001 aXP] := hD
  refine lv_iload_n X.1 X.2.1 dX6_push_5 rfl (lv_at hl 1 rfl) ?_
  refine lv_if_lt (tgt := 17) X.1 X.2.1 dX6_push_6 (by decide) (fun hc => ?_) (fun hc => ?_)
  · replace h := Eq.mp (if_pos hc) h
    refine lv_iconst (v := (-1 : Int32)) X.1 X.2.1 dX6_push_17 (by decide) ?_
    refine lv_goto (tgt := 27) X.1 X.2.1 dX6_push_18 (by decide) ?_
    exact g_iret X (0 : Int32) h hP hD hS dX6_push_27
  · replace h := Eq.mp (if_neg hc) h
    refine lv_iload_n X.1 X.2.1 dX6_push_9 rfl (lv_at hl 1 rfl) ?_
    refine lv_aload_n X.1 X.2.1 dX6_push_10 rfl (lv_at hl 0 rfl) ?_
    refine g_get X hP 0 6 21 (v := .int mo_length) rfl rfl inX6 (by decide) fl_X6_186 rfl dX6_push_11 ?_
    refine lv_icmp_lt (tgt := 21) X.1 X.2.1 dX6_push_14 (by decide) (fun hc => ?_) (fun hc => ?_)
    · replace h := Eq.mp (if_pos hc) h
      refine lv_aload_n X.1 X.2.1 dX6_push_21 rfl (lv_at hl 0 rfl) ?_
      refine g_get X hP 0 6 27 (v := .ref hXP) rfl rfl inX6 (by decide) fl_X6_33 rfl dX6_push_22 ?_
      refine lv_iload_n X.1 X.2.1 dX6_push_25 rfl (lv_at hl 1 rfl) ?_
      obtain ⟨hin, h⟩ := h
      refine va_iald (D := G.1) X.1 X.2.1 X.k.1 hP 1 0 rfl rfl hin dX6_push_26 ?_
      exact g_iret X (0 : Int32) h hP hD hS dX6_push_27
    · replace h := Eq.mp (if_neg hc) h
      refine lv_iconst (v := (-1 : Int32)) X.1 X.2.1 dX6_push_17 (by decide) ?_
      refine lv_goto (tgt := 27) X.1 X.2.1 dX6_push_18 (by decide) ?_
      exact g_iret X (0 : Int32) h hP hD hS dX6_push_27
abbrev rm_MO_states : Room := { frames := 0, cells := 0, slots := 0, locals := 0 }
set_option maxHeartbeats 4000000 in
set_option maxRecDepth 100000 in
theorem c_MO_states (l : Launch) (G : gEnv) (hMO : Nat) (hTM : Nat) (hDO : Nat) (hXB : Nat) (hXC : Nat) (hXF : Nat) (hXY : Nat) (hXS : Nat) (hXP : Nat) (hFA : Nat) (hLE : Nat) (mo_thrown : Int32) (mo_size : Int32) (mo_isBoard : Int32) (mo_width : Int32) (mo_height : Int32) (mo_person : Int32) (mo_moves : Int32) (mo_pushes : Int32) (mo_floor : Int64) (mo_goals : Int64) (mo_boxes : Int64) (mo_newFloor : Int64) (mo_newGoals : Int64) (mo_newBoxes : Int64) (mo_newPerson : Int32) (mo_newWidth : Int32) (mo_kept : Int32) (mo_many : Int32) (mo_taken : Int32) (mo_length : Int32) (post : Int32 → Int32 → Prop) (h : MO_states mo_taken mo_thrown post) (sz : Nat) : Met l yX6_states (Cond.code yX6_states cX6_states 1 (some .int) :: wAll) (rm_MO_states) (gPc G [.ref hMO] [cMO hMO mo_thrown mo_size hTM mo_isBoard mo_width mo_height mo_person mo_moves mo_pushes mo_floor mo_goals mo_boxes mo_newFloor mo_newGoals mo_newBoxes mo_newPerson mo_newWidth mo_kept hDO mo_many mo_taken mo_length hXB hXC hXF hXY hXS hXP hFA hLE] sz) (gQi G (fun (r : Int32) (u : Int32) => post r u) (fun (u : Int32) => [cMO hMO u mo_size hTM mo_isBoard mo_width mo_height mo_person mo_moves mo_pushes mo_floor mo_goals mo_boxes mo_newFloor mo_newGoals mo_newBoxes mo_newPerson mo_newWidth mo_kept hDO mo_many mo_taken mo_length hXB hXC hXF hXY hXS hXP hFA hLE]) (va_A [cMO hMO mo_thrown mo_size hTM mo_isBoard mo_width mo_height mo_person mo_moves mo_pushes mo_floor mo_goals mo_boxes mo_newFloor mo_newGoals mo_newBoxes mo_newPerson mo_newWidth mo_kept hDO mo_many mo_taken mo_length hXB hXC hXF hXY hXS hXP hFA hLE] sz)) 0 0 (va_A [cMO hMO mo_thrown mo_size hTM mo_isBoard mo_width mo_height mo_person mo_moves mo_pushes mo_floor mo_goals mo_boxes mo_newFloor mo_newGoals mo_newBoxes mo_newPerson mo_newWidth mo_kept hDO mo_many mo_taken mo_length hXB hXC hXF hXY hXS hXP hFA hLE] sz) := by
  refine Met.ofW (cc := cX6_states) (maxL := 1) (ret := (some .int)) (by decide) rfl ?_
  intro p e s m args below meth c s₁ B hml hv
  obtain ⟨rfl, hsz, hP, hK, hD0⟩ := hv
  subst hsz
  have X := gX.ofB (ws := [cMO hMO mo_thrown mo_size hTM mo_isBoard mo_width mo_height mo_person mo_moves mo_pushes mo_floor mo_goals mo_boxes mo_newFloor mo_newGoals mo_newBoxes mo_newPerson mo_newWidth mo_kept hDO mo_many mo_taken mo_length hXB hXC hXF hXY hXS hXP hFA hLE]) B hml hK hD0
  have hD := hD0.self (sz := s.heap.size)
  generalize hAe : va_A [cMO hMO mo_thrown mo_size hTM mo_isBoard mo_width mo_height mo_person mo_moves mo_pushes mo_floor mo_goals mo_boxes mo_newFloor mo_newGoals mo_newBoxes mo_newPerson mo_newWidth mo_kept hDO mo_many mo_taken mo_length hXB hXC hXF hXY hXS hXP hFA hLE] s.heap.size = A at X hD ⊢
  have hS : va_S A s.heap s.heap [] := va_S.rf
  have hl := lv_entry ([.ref hMO]) (n := 1) (Nat.le_of_ble_eq_true rfl)
  rw [lg_entry_eq]
  generalize (lg_sl ([.ref hMO]) ++ List.replicate (1 - (lg_sl ([.ref hMO])).length) Slot.unset).toArray = ls at hl ⊢
  have hl : lv_has ls 1 [(0, .ref hMO)] := hl
  dsimp only [headSpec]
  unfold MO_states at h
  refine lv_aload_n X.1 X.2.1 dX6_states_0 rfl (lv_at hl 0 rfl) ?_
  refine lv_iconst (v := (0 : Int32)) X.1 X.2.1 dX6_states_1 (by decide) ?_
  refine g_put X hP hD hS 0 6 0 (v := .int (0 : Int32)) rfl rfl inX6 tyX6 tyX6_ok nmX6 (by decide) fl_X6_42 rfl rfl rfl rfl (Nat.le_of_ble_eq_true rfl) dX6_states_2 (fun H locs hP hD hS => ?_)
  replace hP : va_P G.1 gCl [cMO hMO (0 : Int32) mo_size hTM mo_isBoard mo_width mo_height mo_person mo_moves mo_pushes mo_floor mo_goals mo_boxes mo_newFloor mo_newGoals mo_newBoxes mo_newPerson mo_newWidth mo_kept hDO mo_many mo_taken mo_length hXB hXC hXF hXY hXS hXP hFA hLE] H := hP
  replace hD : va_D A [cMO hMO (0 : Int32) mo_size hTM mo_isBoard mo_width mo_height mo_person mo_moves mo_pushes mo_floor mo_goals mo_boxes mo_newFloor mo_newGoals mo_newBoxes mo_newPerson mo_newWidth mo_kept hDO mo_many mo_taken mo_length hXB hXC hXF hXY hXS hXP hFA hLE] := hD
  refine lv_aload_n X.1 X.2.1 dX6_states_5 rfl (lv_at hl 0 rfl) ?_
  refine g_get X hP 0 6 20 (v := .int mo_taken) rfl rfl inX6 (by decide) fl_X6_183 rfl dX6_states_6 ?_
  exact g_iret X (0 : Int32) h hP hD hS dX6_states_9
