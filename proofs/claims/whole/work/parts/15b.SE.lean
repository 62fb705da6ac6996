abbrev rm_SE_slotOf : Room := { frames := 0, cells := 0, slots := 0, locals := 0 }
set_option maxHeartbeats 4000000 in
set_option maxRecDepth 100000 in
theorem s_SE_slotOf_86 {p : Program} {l : Launch} {e : Env} {s : State} {m : MethodId} {args : Array Value} {below : List Frame} {meth : Method} {c : Code} {G : gEnv} {A : Nat → Prop} {hSE : Nat} {hSB : Nat} {hSL : Nat} {hSP : Nat} {hSU : Nat} {hSS : Nat} {se_count : Int32} {se_length : Int32} {se_found : Int32} {se_overfull : Int32} {sb_n : Nat} {aSB : Nat → Int64} {sl_n : Nat} {aSL : Nat → Int32} {ss_n : Nat} {aSS : Nat → Int32} {k37 : Int64 → Int32 → Int32 → Int32 → Int32 → Prop} {post : Int32 → Prop} (X : gX p m meth c cX4_slotOf 10 RX4 (some .int) s args G A) (hk37 : ∀ (v1' : Int64) (v3' : Int32) (v4' : Int32) (v7' : Int32) (v8' : Int32) (H : Heap) (locs : List Loc) (ls : Array Slot), k37 v1' v3' v4' v7' v8' → va_P G.1 gCl [cSE hSE se_count se_length hSB hSL hSP hSU hSS se_found se_overfull, cJ G hSB sb_n aSB, cI G hSL sl_n aSL, cI G hSS ss_n aSS] H → va_D A [cSE hSE se_count se_length hSB hSL hSP hSU hSS se_found se_overfull, cJ G hSB sb_n aSB, cI G hSL sl_n aSL, cI G hSS ss_n aSS] → va_S A s.heap H locs → lv_has ls 10 [(0, .ref hSE), (1, .long v1'), (3, .int v3'), (4, .int v4'), (7, .int v7'), (8, .int v8')] → W p l e rm_SE_slotOf s m args below meth c H locs 0 0 (MQ below (gQi G (fun (r : Int32) (u : Unit) => post r ) (fun (u : Unit) => [cSE hSE se_count se_length hSB hSL hSP hSU hSS se_found se_overfull, cJ G hSB sb_n aSB, cI G hSL sl_n aSL, cI G hSS ss_n aSS]) A) args s 0 0 A) (F0 m 37 ls [])) : ∀ (v1 : Int64) (v3 : Int32) (v4 : Int32) (v7 : Int32) (v8 : Int32) (H : Heap) (locs : List Loc) (ls : Array Slot), SE_slotOf_86 sb_n aSB sl_n aSL ss_n aSS k37 post v1 v3 v4 v7 v8 → va_P G.1 gCl [cSE hSE se_count se_length hSB hSL hSP hSU hSS se_found se_overfull, cJ G hSB sb_n aSB, cI G hSL sl_n aSL, cI G hSS ss_n aSS] H → va_D A [cSE hSE se_count se_length hSB hSL hSP hSU hSS se_found se_overfull, cJ G hSB sb_n aSB, cI G hSL sl_n aSL, cI G hSS ss_n aSS] → va_S A s.heap H locs → lv_has ls 10 [(0, .ref hSE), (1, .long v1), (3, .int v3), (4, .int v4), (7, .int v7), (8, .int v8)] → W p l e rm_SE_slotOf s m args below meth c H locs 0 0 (MQ below (gQi G (fun (r : Int32) (u : Unit) => post r ) (fun (u : Unit) => [cSE hSE se_count se_length hSB hSL hSP hSU hSS se_found se_overfull, cJ G hSB sb_n aSB, cI G hSL sl_n aSL, cI G hSS ss_n aSS]) A) args s 0 0 A) (F0 m 86 ls []) := by
  intro v1 v3 v4 v7 v8 H locs ls h hP hD hS hl
  unfold SE_slotOf_86 at h
  refine lv_iload X.1 X.2.1 dX4_slotOf_86 (lv_at hl 4 rfl) ?_
  refine lv_iconst (v := (1 : Int32)) X.1 X.2.1 dX4_slotOf_88 (by decide) ?_
  refine lv_iadd X.1 X.2.1 dX4_slotOf_89 ?_
  refine lv_iload X.1 X.2.1 dX4_slotOf_90 (lv_at hl 3 rfl) ?_
  refine lv_iand X.1 X.2.1 dX4_slotOf_92 ?_
  refine lv_topi (fun v7_1 e_v7_1 => ?_)
  replace h := h v7_1 e_v7_1
  refine lv_istore (lv' := [(7, .int v7_1), (0, .ref hSE), (1, .long v1), (3, .int v3), (4, .int v4), (8, .int v8)]) X.1 X.2.1 dX4_slotOf_93 hl (by decide) rfl (fun ls hl => ?_)
  refine lv_iinc (v := (v8 + (1 : Int32))) (lv' := [(8, .int (v8 + (1 : Int32))), (7, .int v7_1), (0, .ref hSE), (1, .long v1), (3, .int v3), (4, .int v4)]) X.1 X.2.1 dX4_slotOf_95 hl (k := 5) rfl rfl (by decide) rfl (fun ls hl => ?_)
  refine lv_goto (tgt := 37) X.1 X.2.1 dX4_slotOf_98 (by decide) ?_
  exact hk37 v1 v3 v4 v7_1 (v8 + (1 : Int32)) _ _ _ h hP hD hS (lv_sub hl [2, 3, 4, 5, 1, 0] rfl)
set_option maxHeartbeats 4000000 in
set_option maxRecDepth 100000 in
theorem s_SE_slotOf_37 {p : Program} {l : Launch} {e : Env} {s : State} {m : MethodId} {args : Array Value} {below : List Frame} {meth : Method} {c : Code} {G : gEnv} {A : Nat → Prop} {hSE : Nat} {hSB : Nat} {hSL : Nat} {hSP : Nat} {hSU : Nat} {hSS : Nat} {se_count : Int32} {se_length : Int32} {se_found : Int32} {se_overfull : Int32} {sb_n : Nat} {aSB : Nat → Int64} {sl_n : Nat} {aSL : Nat → Int32} {ss_n : Nat} {aSS : Nat → Int32} {post : Int32 → Prop} (X : gX p m meth c cX4_slotOf 10 RX4 (some .int) s args G A)  : ∀ (n : Nat) (v1 : Int64) (v3 : Int32) (v4 : Int32) (v7 : Int32) (v8 : Int32) (H : Heap) (locs : List Loc) (ls : Array Slot), SE_slotOf_37 sb_n aSB sl_n aSL ss_n aSS post n v1 v3 v4 v7 v8 → va_P G.1 gCl [cSE hSE se_count se_length hSB hSL hSP hSU hSS se_found se_overfull, cJ G hSB sb_n aSB, cI G hSL sl_n aSL, cI G hSS ss_n aSS] H → va_D A [cSE hSE se_count se_length hSB hSL hSP hSU hSS se_found se_overfull, cJ G hSB sb_n aSB, cI G hSL sl_n aSL, cI G hSS ss_n aSS] → va_S A s.heap H locs → lv_has ls 10 [(0, .ref hSE), (1, .long v1), (3, .int v3), (4, .int v4), (7, .int v7), (8, .int v8)] → W p l e rm_SE_slotOf s m args below meth c H locs 0 0 (MQ below (gQi G (fun (r : Int32) (u : Unit) => post r ) (fun (u : Unit) => [cSE hSE se_count se_length hSB hSL hSP hSU hSS se_found se_overfull, cJ G hSB sb_n aSB, cI G hSL sl_n aSL, cI G hSS ss_n aSS]) A) args s 0 0 A) (F0 m 37 ls []) := by
  intro n
  induction n with
  | zero => intro v1 v3 v4 v7 v8 H locs ls h _ _ _ _; exact h.elim
  | succ n ih =>
    intro v1 v3 v4 v7 v8 H locs ls h hP hD hS hl
    unfold SE_slotOf_37 at h
    refine lv_iload X.1 X.2.1 dX4_slotOf_37 (lv_at hl 5 rfl) ?_
    refine lv_iload X.1 X.2.1 dX4_slotOf_39 (lv_at hl 3 rfl) ?_
    refine lv_icmp_ge (tgt := 101) X.1 X.2.1 dX4_slotOf_41 (by decide) (fun hc => ?_) (fun hc => ?_)
    · replace h := Eq.mp (if_pos hc) h
      refine lv_iload X.1 X.2.1 dX4_slotOf_101 (lv_at hl 4 rfl) ?_
      exact g_iret X () h hP hD hS dX4_slotOf_103
    · replace h := Eq.mp (if_neg hc) h
      refine lv_aload_n X.1 X.2.1 dX4_slotOf_44 rfl (lv_at hl 0 rfl) ?_
      refine g_get X hP 0 4 6 (v := .ref hSS) rfl rfl inX4 (by decide) fl_X4_25 rfl dX4_slotOf_45 ?_
      refine lv_iload X.1 X.2.1 dX4_slotOf_48 (lv_at hl 4 rfl) ?_
      obtain ⟨hin, h⟩ := h
      refine va_iald (D := G.1) X.1 X.2.1 X.k.1 hP 3 0 rfl rfl hin dX4_slotOf_50 ?_
      refine lv_iconst (v := (1 : Int32)) X.1 X.2.1 dX4_slotOf_51 (by decide) ?_
      refine lv_isub X.1 X.2.1 dX4_slotOf_52 ?_
      refine lv_topi (fun v9_1 e_v9_1 => ?_)
      replace h := h v9_1 e_v9_1
      refine lv_istore (lv' := [(9, .int v9_1), (0, .ref hSE), (1, .long v1), (3, .int v3), (4, .int v4), (7, .int v7), (8, .int v8)]) X.1 X.2.1 dX4_slotOf_53 hl (by decide) rfl (fun ls hl => ?_)
      refine lv_iload X.1 X.2.1 dX4_slotOf_55 (lv_at hl 0 rfl) ?_
      refine lv_if_lt (tgt := 101) X.1 X.2.1 dX4_slotOf_57 (by decide) (fun hc => ?_) (fun hc => ?_)
      · replace h := Eq.mp (if_pos hc) h
        refine lv_iload X.1 X.2.1 dX4_slotOf_101 (lv_at hl 5 rfl) ?_
        exact g_iret X () h hP hD hS dX4_slotOf_103
      · replace h := Eq.mp (if_neg hc) h
        refine lv_aload_n X.1 X.2.1 dX4_slotOf_60 rfl (lv_at hl 1 rfl) ?_
        refine g_get X hP 0 4 2 (v := .ref hSB) rfl rfl inX4 (by decide) fl_X4_11 rfl dX4_slotOf_61 ?_
        refine lv_iload X.1 X.2.1 dX4_slotOf_64 (lv_at hl 0 rfl) ?_
        obtain ⟨hin, h⟩ := h
        refine va_lald (D := G.1) X.1 X.2.1 X.k.1 hP 1 1 rfl rfl hin dX4_slotOf_66 ?_
        refine lv_lload_n X.1 X.2.1 dX4_slotOf_67 rfl (lv_at hl 2 rfl) ?_
        refine g_lcmp_ne (tgt := 86) X dX4_slotOf_68 dX4_slotOf_69 (by decide) (fun hc => ?_) (fun hc => ?_)
        · replace h := Eq.mp (if_neg hc) h
          exact s_SE_slotOf_86 X (fun v1' v3' v4' v7' v8' H' locs' ls' h' hP' hD' hS' hl' => ih v1' v3' v4' v7' v8' H' locs' ls' h' hP' hD' hS' hl') v1 v3 v4 v7 v8 _ _ _ h hP hD hS (lv_sub hl [1, 2, 3, 4, 5, 6] rfl)
        · replace h := Eq.mp (if_pos hc) h
          refine lv_aload_n X.1 X.2.1 dX4_slotOf_72 rfl (lv_at hl 1 rfl) ?_
          refine g_get X hP 0 4 3 (v := .ref hSL) rfl rfl inX4 (by decide) fl_X4_15 rfl dX4_slotOf_73 ?_
          refine lv_iload X.1 X.2.1 dX4_slotOf_76 (lv_at hl 0 rfl) ?_
          obtain ⟨hin, h⟩ := h
          refine va_iald (D := G.1) X.1 X.2.1 X.k.1 hP 2 0 rfl rfl hin dX4_slotOf_78 ?_
          refine lv_iload_n X.1 X.2.1 dX4_slotOf_79 rfl (lv_at hl 3 rfl) ?_
          refine lv_icmp_ne (tgt := 86) X.1 X.2.1 dX4_slotOf_80 (by decide) (fun hc => ?_) (fun hc => ?_)
          · replace h := Eq.mp (if_neg hc) h
            exact s_SE_slotOf_86 X (fun v1' v3' v4' v7' v8' H' locs' ls' h' hP' hD' hS' hl' => ih v1' v3' v4' v7' v8' H' locs' ls' h' hP' hD' hS' hl') v1 v3 v4 v7 v8 _ _ _ h hP hD hS (lv_sub hl [1, 2, 3, 4, 5, 6] rfl)
          · replace h := Eq.mp (if_pos hc) h
            refine lv_goto (tgt := 101) X.1 X.2.1 dX4_slotOf_83 (by decide) ?_
            refine lv_iload X.1 X.2.1 dX4_slotOf_101 (lv_at hl 5 rfl) ?_
            exact g_iret X () h hP hD hS dX4_slotOf_103
set_option maxHeartbeats 4000000 in
set_option maxRecDepth 100000 in
theorem c_SE_slotOf (l : Launch) (G : gEnv) (hSE : Nat) (hSB : Nat) (hSL : Nat) (hSP : Nat) (hSU : Nat) (hSS : Nat) (se_count : Int32) (se_length : Int32) (se_found : Int32) (se_overfull : Int32) (sb_n : Nat) (aSB : Nat → Int64) (sl_n : Nat) (aSL : Nat → Int32) (ss_n : Nat) (aSS : Nat → Int32) (v1 : Int64) (v3 : Int32) (post : Int32 → Prop) (h : SE_slotOf sb_n aSB sl_n aSL ss_n aSS v1 v3 post) (sz : Nat) : Met l yX4_slotOf (Cond.code yX4_slotOf cX4_slotOf 10 (some .int) :: wAll) (rm_SE_slotOf) (gPc G [.ref hSE, .long v1, .int v3] [cSE hSE se_count se_length hSB hSL hSP hSU hSS se_found se_overfull, cJ G hSB sb_n aSB, cI G hSL sl_n aSL, cI G hSS ss_n aSS] sz) (gQi G (fun (r : Int32) (u : Unit) => post r ) (fun (u : Unit) => [cSE hSE se_count se_length hSB hSL hSP hSU hSS se_found se_overfull, cJ G hSB sb_n aSB, cI G hSL sl_n aSL, cI G hSS ss_n aSS]) (va_A [cSE hSE se_count se_length hSB hSL hSP hSU hSS se_found se_overfull, cJ G hSB sb_n aSB, cI G hSL sl_n aSL, cI G hSS ss_n aSS] sz)) 0 0 (va_A [cSE hSE se_count se_length hSB hSL hSP hSU hSS se_found se_overfull, cJ G hSB sb_n aSB, cI G hSL sl_n aSL, cI G hSS ss_n aSS] sz) := by
  refine Met.ofW (cc := cX4_slotOf) (maxL := 10) (ret := (some .int)) (by decide) rfl ?_
  intro p e s m args below meth c s₁ B hml hv
  obtain ⟨rfl, hsz, hP, hK, hD0⟩ := hv
  subst hsz
  have X := gX.ofB (ws := [cSE hSE se_count se_length hSB hSL hSP hSU hSS se_found se_overfull, cJ G hSB sb_n aSB, cI G hSL sl_n aSL, cI G hSS ss_n aSS]) B hml hK hD0
  have hD := hD0.self (sz := s.heap.size)
  generalize hAe : va_A [cSE hSE se_count se_length hSB hSL hSP hSU hSS se_found se_overfull, cJ G hSB sb_n aSB, cI G hSL sl_n aSL, cI G hSS ss_n aSS] s.heap.size = A at X hD ⊢
  have hS : va_S A s.heap s.heap [] := va_S.rf
  have hl := lv_entry ([.ref hSE, .long v1, .int v3]) (n := 10) (Nat.le_of_ble_eq_true rfl)
  rw [lg_entry_eq]
  generalize (lg_sl ([.ref hSE, .long v1, .int v3]) ++ List.replicate (10 - (lg_sl ([.ref hSE, .long v1, .int v3])).length) Slot.unset).toArray = ls at hl ⊢
  have hl : lv_has ls 10 [(0, .ref hSE), (1, .long v1), (3, .int v3)] := hl
  dsimp only [headSpec]
  unfold SE_slotOf at h
  refine lv_aload_n X.1 X.2.1 dX4_slotOf_0 rfl (lv_at hl 0 rfl) ?_
  refine g_get X hP 0 4 6 (v := .ref hSS) rfl rfl inX4 (by decide) fl_X4_25 rfl dX4_slotOf_1 ?_
  refine va_alen (D := G.1) (v := (nI ss_n)) X.1 X.2.1 X.k.1 hP 3 0 rfl rfl rfl dX4_slotOf_4 ?_
  refine lv_iconst (v := (1 : Int32)) X.1 X.2.1 dX4_slotOf_5 (by decide) ?_
  refine lv_isub X.1 X.2.1 dX4_slotOf_6 ?_
  refine lv_topi (fun v4_1 e_v4_1 => ?_)
  replace h := h v4_1 e_v4_1
  refine lv_istore (lv' := [(4, .int v4_1), (0, .ref hSE), (1, .long v1), (3, .int v3)]) X.1 X.2.1 dX4_slotOf_7 hl (by decide) rfl (fun ls hl => ?_)
  refine lv_lload_n X.1 X.2.1 dX4_slotOf_9 rfl (lv_at hl 2 rfl) ?_
  refine lv_ldc2 (v := (-7046029254386353131 : Int64)) X.1 X.2.1 X.2.2.2.1 (X.2.2.2.2.1 _ cn_X4_121) dX4_slotOf_10 ?_
  refine lv_lmul X.1 X.2.1 dX4_slotOf_13 ?_
  refine lv_iload_n X.1 X.2.1 dX4_slotOf_14 rfl (lv_at hl 3 rfl) ?_
  refine lv_i2l (v := v3.toInt64) X.1 X.2.1 dX4_slotOf_15 rfl ?_
  refine lv_ladd X.1 X.2.1 dX4_slotOf_16 ?_
  refine lv_ldc2 (v := (-7046029254386353131 : Int64)) X.1 X.2.1 X.2.2.2.1 (X.2.2.2.2.1 _ cn_X4_121) dX4_slotOf_17 ?_
  refine lv_lmul X.1 X.2.1 dX4_slotOf_20 ?_
  refine lv_topl (fun v5_2 e_v5_2 => ?_)
  replace h := h v5_2 e_v5_2
  refine lv_lstore (lv' := [(5, .long v5_2), (4, .int v4_1), (0, .ref hSE), (1, .long v1), (3, .int v3)]) X.1 X.2.1 dX4_slotOf_21 hl (by decide) rfl (fun ls hl => ?_)
  refine lv_lload X.1 X.2.1 dX4_slotOf_23 (lv_at hl 0 rfl) ?_
  refine lv_bipush (v := (40 : Int32)) X.1 X.2.1 dX4_slotOf_25 (by decide) ?_
  refine lv_lushr X.1 X.2.1 dX4_slotOf_27 rfl ?_
  refine lv_l2i (v := (v5_2.toUInt64 >>> ((40 : Int32).toInt64.toUInt64 &&& Int64.toUInt64 63)).toInt64.toInt32) X.1 X.2.1 dX4_slotOf_28 rfl ?_
  refine lv_iload X.1 X.2.1 dX4_slotOf_29 (lv_at hl 1 rfl) ?_
  refine lv_iand X.1 X.2.1 dX4_slotOf_31 ?_
  refine lv_topi (fun v7_3 e_v7_3 => ?_)
  replace h := h v7_3 e_v7_3
  refine lv_istore (lv' := [(7, .int v7_3), (5, .long v5_2), (4, .int v4_1), (0, .ref hSE), (1, .long v1), (3, .int v3)]) X.1 X.2.1 dX4_slotOf_32 hl (by decide) rfl (fun ls hl => ?_)
  refine lv_iconst (v := (0 : Int32)) X.1 X.2.1 dX4_slotOf_34 (by decide) ?_
  refine lv_istore (lv' := [(8, .int (0 : Int32)), (7, .int v7_3), (5, .long v5_2), (4, .int v4_1), (0, .ref hSE), (1, .long v1), (3, .int v3)]) X.1 X.2.1 dX4_slotOf_35 hl (by decide) rfl (fun ls hl => ?_)
  obtain ⟨n', h⟩ := h
  exact s_SE_slotOf_37 X  n' v1 v3 v4_1 v7_3 (0 : Int32) _ _ _ h hP hD hS (lv_sub hl [4, 5, 6, 3, 1, 0] rfl)
abbrev rm_SE_makeRoom : Room := { frames := 2, cells := 5, slots := 56384, locals := 62 }
set_option maxHeartbeats 4000000 in
set_option maxRecDepth 100000 in
theorem s_SE_makeRoom_67 {p : Program} {l : Launch} {e : Env} {s : State} {m : MethodId} {args : Array Value} {below : List Frame} {meth : Method} {c : Code} {G : gEnv} {A : Nat → Prop} {hSE : Nat} {se_length : Int32} {se_found : Int32} {se_overfull : Int32} {se_count : Int32} {post : Nat → (Nat → Int64) → Nat → (Nat → Int32) → Nat → (Nat → Int32) → Nat → (Nat → Int32) → Nat → (Nat → Int32) → Prop} (X : gX p m meth c cX4_makeRoom 2 RX4 none s args G A)  : ∀ (n : Nat) (sb_n : Nat) (aSB : (Nat → Int64)) (sl_n : Nat) (aSL : (Nat → Int32)) (sp_n : Nat) (aSP : (Nat → Int32)) (su_n : Nat) (aSU : (Nat → Int32)) (ss_n : Nat) (aSS : (Nat → Int32)) (v1 : Int32) (hSB hSL hSP hSU hSS : Nat) (H : Heap) (locs : List Loc) (ls : Array Slot), SE_makeRoom_67 se_count post n sb_n aSB sl_n aSL sp_n aSP su_n aSU ss_n aSS v1 → va_P G.1 gCl [cSE hSE se_count se_length hSB hSL hSP hSU hSS se_found se_overfull, cJ G hSB sb_n aSB, cI G hSL sl_n aSL, cI G hSP sp_n aSP, cI G hSU su_n aSU, cI G hSS ss_n aSS] H → va_D A [cSE hSE se_count se_length hSB hSL hSP hSU hSS se_found se_overfull, cJ G hSB sb_n aSB, cI G hSL sl_n aSL, cI G hSP sp_n aSP, cI G hSU su_n aSU, cI G hSS ss_n aSS] → va_S A s.heap H locs → lv_has ls 2 [(0, .ref hSE), (1, .int v1)] → W p l e rm_SE_makeRoom s m args below meth c H locs 5 56384 (MQ below (gQv G (fun (u : Nat × (Nat → Int64) × Nat × (Nat → Int32) × Nat × (Nat → Int32) × Nat × (Nat → Int32) × Nat × (Nat → Int32) × Nat × Nat × Nat × Nat × Nat) => post u.1 u.2.1 u.2.2.1 u.2.2.2.1 u.2.2.2.2.1 u.2.2.2.2.2.1 u.2.2.2.2.2.2.1 u.2.2.2.2.2.2.2.1 u.2.2.2.2.2.2.2.2.1 u.2.2.2.2.2.2.2.2.2.1) (fun (u : Nat × (Nat → Int64) × Nat × (Nat → Int32) × Nat × (Nat → Int32) × Nat × (Nat → Int32) × Nat × (Nat → Int32) × Nat × Nat × Nat × Nat × Nat) => [cSE hSE se_count se_length u.2.2.2.2.2.2.2.2.2.2.1 u.2.2.2.2.2.2.2.2.2.2.2.1 u.2.2.2.2.2.2.2.2.2.2.2.2.1 u.2.2.2.2.2.2.2.2.2.2.2.2.2.1 u.2.2.2.2.2.2.2.2.2.2.2.2.2.2 se_found se_overfull, cJ G u.2.2.2.2.2.2.2.2.2.2.1 u.1 u.2.1, cI G u.2.2.2.2.2.2.2.2.2.2.2.1 u.2.2.1 u.2.2.2.1, cI G u.2.2.2.2.2.2.2.2.2.2.2.2.1 u.2.2.2.2.1 u.2.2.2.2.2.1, cI G u.2.2.2.2.2.2.2.2.2.2.2.2.2.1 u.2.2.2.2.2.2.1 u.2.2.2.2.2.2.2.1, cI G u.2.2.2.2.2.2.2.2.2.2.2.2.2.2 u.2.2.2.2.2.2.2.2.1 u.2.2.2.2.2.2.2.2.2.1]) A) args s 5 56384 A) (F0 m 67 ls []) := by
  intro n
  induction n with
  | zero => intro sb_n aSB sl_n aSL sp_n aSP su_n aSU ss_n aSS v1 hSB hSL hSP hSU hSS H locs ls h _ _ _ _; exact h.elim
  | succ n ih =>
    intro sb_n aSB sl_n aSL sp_n aSP su_n aSU ss_n aSS v1 hSB hSL hSP hSU hSS H locs ls h hP hD hS hl
    unfold SE_makeRoom_67 at h
    refine lv_iload_n X.1 X.2.1 dX4_makeRoom_67 rfl (lv_at hl 1 rfl) ?_
    refine lv_aload_n X.1 X.2.1 dX4_makeRoom_68 rfl (lv_at hl 0 rfl) ?_
    refine g_get X hP 0 4 0 (v := .int se_count) rfl rfl inX4 (by decide) fl_X4_34 rfl dX4_makeRoom_69 ?_
    refine lv_icmp_ge (tgt := 105) X.1 X.2.1 dX4_makeRoom_72 (by decide) (fun hc => ?_) (fun hc => ?_)
    · replace h := Eq.mp (if_pos hc) h
      exact g_vret X (sb_n, aSB, sl_n, aSL, sp_n, aSP, su_n, aSU, ss_n, aSS, hSB, hSL, hSP, hSU, hSS) h hP hD hS dX4_makeRoom_105
    · replace h := Eq.mp (if_neg hc) h
      refine lv_aload_n X.1 X.2.1 dX4_makeRoom_75 rfl (lv_at hl 0 rfl) ?_
      refine g_get X hP 0 4 6 (v := .ref hSS) rfl rfl inX4 (by decide) fl_X4_25 rfl dX4_makeRoom_76 ?_
      refine lv_aload_n X.1 X.2.1 dX4_makeRoom_79 rfl (lv_at hl 0 rfl) ?_
      refine lv_aload_n X.1 X.2.1 dX4_makeRoom_80 rfl (lv_at hl 0 rfl) ?_
      refine g_get X hP 0 4 2 (v := .ref hSB) rfl rfl inX4 (by decide) fl_X4_11 rfl dX4_makeRoom_81 ?_
      refine lv_iload_n X.1 X.2.1 dX4_makeRoom_84 rfl (lv_at hl 1 rfl) ?_
      obtain ⟨hin, h⟩ := h
      refine va_lald (D := G.1) X.1 X.2.1 X.k.1 hP 1 1 rfl rfl hin dX4_makeRoom_85 ?_
      refine lv_aload_n X.1 X.2.1 dX4_makeRoom_86 rfl (lv_at hl 0 rfl) ?_
      refine g_get X hP 0 4 3 (v := .ref hSL) rfl rfl inX4 (by decide) fl_X4_15 rfl dX4_makeRoom_87 ?_
      refine lv_iload_n X.1 X.2.1 dX4_makeRoom_90 rfl (lv_at hl 1 rfl) ?_
      obtain ⟨hin, h⟩ := h
      refine va_iald (D := G.1) X.1 X.2.1 X.k.1 hP 2 0 rfl rfl hin dX4_makeRoom_91 ?_
      refine g_ci (wr := [cI G hSP sp_n aSP, cI G hSU su_n aSU]) X [0, 1, 2, 5] [3, 4] (g_rV (As := [.long (aSB v1.toNatClampNeg), .int (aSL v1.toNatClampNeg)]) (rest := [.ref hSS]) X (c_SE_slotOf l G hSE hSB hSL hSP hSU hSS se_count se_length se_found se_overfull sb_n aSB sl_n aSL ss_n aSS (aSB v1.toNatClampNeg) (aSL v1.toNatClampNeg) _ h _) lk_X4_107 rfl rfl ⟨Nat.le_of_ble_eq_true rfl, Nat.le_of_ble_eq_true rfl⟩ hP hD hS [0, 1, 2, 5] rfl rfl 0 4 rfl rfl rfl hl.1 rfl (Nat.le_of_ble_eq_true rfl) dX4_makeRoom_92 ⟨Nat.le_of_ble_eq_true rfl, Nat.le_of_ble_eq_true rfl⟩) hP hD hS rfl rfl rfl (by decide) (fun r_1 u H locs h hP hD hS => ?_)
      try dsimp only at h
      replace hP := hP.sub (ws' := [cSE hSE se_count se_length hSB hSL hSP hSU hSS se_found se_overfull, cJ G hSB sb_n aSB, cI G hSL sl_n aSL, cI G hSP sp_n aSP, cI G hSU su_n aSU, cI G hSS ss_n aSS]) [2, 3, 4, 0, 1, 5] rfl
      replace hD := hD.sub (ws' := [cSE hSE se_count se_length hSB hSL hSP hSU hSS se_found se_overfull, cJ G hSB sb_n aSB, cI G hSL sl_n aSL, cI G hSP sp_n aSP, cI G hSU su_n aSU, cI G hSS ss_n aSS]) [2, 3, 4, 0, 1, 5] rfl rfl
      refine lv_iload_n X.1 X.2.1 dX4_makeRoom_95 rfl (lv_at hl 1 rfl) ?_
      refine lv_iconst (v := (1 : Int32)) X.1 X.2.1 dX4_makeRoom_96 (by decide) ?_
      refine lv_iadd X.1 X.2.1 dX4_makeRoom_97 ?_
      refine lv_topi (fun x_2 e_x_2 => ?_)
      replace h := h x_2 e_x_2
      obtain ⟨hin, h⟩ := h
      refine g_ist X hP hD hS 5 rfl hin dX4_makeRoom_98 (fun aSS_3 e_aSS_3 H locs hP hD hS => ?_)
      replace h := h aSS_3 e_aSS_3
      replace hP : va_P G.1 gCl [cSE hSE se_count se_length hSB hSL hSP hSU hSS se_found se_overfull, cJ G hSB sb_n aSB, cI G hSL sl_n aSL, cI G hSP sp_n aSP, cI G hSU su_n aSU, cI G hSS ss_n aSS_3] H := hP
      replace hD : va_D A [cSE hSE se_count se_length hSB hSL hSP hSU hSS se_found se_overfull, cJ G hSB sb_n aSB, cI G hSL sl_n aSL, cI G hSP sp_n aSP, cI G hSU su_n aSU, cI G hSS ss_n aSS_3] := hD
      refine lv_iinc (v := (v1 + (1 : Int32))) (lv' := [(1, .int (v1 + (1 : Int32))), (0, .ref hSE)]) X.1 X.2.1 dX4_makeRoom_99 hl (k := 1) rfl rfl (by decide) rfl (fun ls hl => ?_)
      refine lv_goto (tgt := 67) X.1 X.2.1 dX4_makeRoom_102 (by decide) ?_
      exact ih sb_n aSB sl_n aSL sp_n aSP su_n aSU ss_n aSS_3 (v1 + (1 : Int32)) hSB hSL hSP hSU hSS _ _ _ h hP hD hS (lv_sub hl [1, 0] rfl)
set_option maxHeartbeats 4000000 in
set_option maxRecDepth 100000 in
theorem c_SE_makeRoom (l : Launch) (G : gEnv) (hSE : Nat) (hSB : Nat) (hSL : Nat) (hSP : Nat) (hSU : Nat) (hSS : Nat) (se_count : Int32) (se_length : Int32) (se_found : Int32) (se_overfull : Int32) (sb_n : Nat) (aSB : Nat → Int64) (sl_n : Nat) (aSL : Nat → Int32) (sp_n : Nat) (aSP : Nat → Int32) (su_n : Nat) (aSU : Nat → Int32) (ss_n : Nat) (aSS : Nat → Int32) (post : Nat → (Nat → Int64) → Nat → (Nat → Int32) → Nat → (Nat → Int32) → Nat → (Nat → Int32) → Nat → (Nat → Int32) → Prop) (h : SE_makeRoom se_count sb_n aSB sl_n aSL sp_n aSP su_n aSU ss_n aSS post) (sz : Nat) : Met l yX4_makeRoom (Cond.code yX4_makeRoom cX4_makeRoom 2 none :: wAll) (rm_SE_makeRoom) (gPc G [.ref hSE] [cSE hSE se_count se_length hSB hSL hSP hSU hSS se_found se_overfull, cJ G hSB sb_n aSB, cI G hSL sl_n aSL, cI G hSP sp_n aSP, cI G hSU su_n aSU, cI G hSS ss_n aSS] sz) (gQv G (fun (u : Nat × (Nat → Int64) × Nat × (Nat → Int32) × Nat × (Nat → Int32) × Nat × (Nat → Int32) × Nat × (Nat → Int32) × Nat × Nat × Nat × Nat × Nat) => post u.1 u.2.1 u.2.2.1 u.2.2.2.1 u.2.2.2.2.1 u.2.2.2.2.2.1 u.2.2.2.2.2.2.1 u.2.2.2.2.2.2.2.1 u.2.2.2.2.2.2.2.2.1 u.2.2.2.2.2.2.2.2.2.1) (fun (u : Nat × (Nat → Int64) × Nat × (Nat → Int32) × Nat × (Nat → Int32) × Nat × (Nat → Int32) × Nat × (Nat → Int32) × Nat × Nat × Nat × Nat × Nat) => [cSE hSE se_count se_length u.2.2.2.2.2.2.2.2.2.2.1 u.2.2.2.2.2.2.2.2.2.2.2.1 u.2.2.2.2.2.2.2.2.2.2.2.2.1 u.2.2.2.2.2.2.2.2.2.2.2.2.2.1 u.2.2.2.2.2.2.2.2.2.2.2.2.2.2 se_found se_overfull, cJ G u.2.2.2.2.2.2.2.2.2.2.1 u.1 u.2.1, cI G u.2.2.2.2.2.2.2.2.2.2.2.1 u.2.2.1 u.2.2.2.1, cI G u.2.2.2.2.2.2.2.2.2.2.2.2.1 u.2.2.2.2.1 u.2.2.2.2.2.1, cI G u.2.2.2.2.2.2.2.2.2.2.2.2.2.1 u.2.2.2.2.2.2.1 u.2.2.2.2.2.2.2.1, cI G u.2.2.2.2.2.2.2.2.2.2.2.2.2.2 u.2.2.2.2.2.2.2.2.1 u.2.2.2.2.2.2.2.2.2.1]) (va_A [cSE hSE se_count se_length hSB hSL hSP hSU hSS se_found se_overfull, cJ G hSB sb_n aSB, cI G hSL sl_n aSL, cI G hSP sp_n aSP, cI G hSU su_n aSU, cI G hSS ss_n aSS] sz)) 5 56384 (va_A [cSE hSE se_count se_length hSB hSL hSP hSU hSS se_found se_overfull, cJ G hSB sb_n aSB, cI G hSL sl_n aSL, cI G hSP sp_n aSP, cI G hSU su_n aSU, cI G hSS ss_n aSS] sz) := by
  refine Met.ofW (cc := cX4_makeRoom) (maxL := 2) (ret := none) (by decide) rfl ?_
  intro p e s m args below meth c s₁ B hml hv
  obtain ⟨rfl, hsz, hP, hK, hD0⟩ := hv
  subst hsz
  have X := gX.ofB (ws := [cSE hSE se_count se_length hSB hSL hSP hSU hSS se_found se_overfull, cJ G hSB sb_n aSB, cI G hSL sl_n aSL, cI G hSP sp_n aSP, cI G hSU su_n aSU, cI G hSS ss_n aSS]) B hml hK hD0
  have hD := hD0.self (sz := s.heap.size)
  generalize hAe : va_A [cSE hSE se_count se_length hSB hSL hSP hSU hSS se_found se_overfull, cJ G hSB sb_n aSB, cI G hSL sl_n aSL, cI G hSP sp_n aSP, cI G hSU su_n aSU, cI G hSS ss_n aSS] s.heap.size = A at X hD ⊢
  have hS : va_S A s.heap s.heap [] := va_S.rf
  have hl := lv_entry ([.ref hSE]) (n := 2) (Nat.le_of_ble_eq_true rfl)
  rw [lg_entry_eq]
  generalize (lg_sl ([.ref hSE]) ++ List.replicate (2 - (lg_sl ([.ref hSE])).length) Slot.unset).toArray = ls at hl ⊢
  have hl : lv_has ls 2 [(0, .ref hSE)] := hl
  dsimp only [headSpec]
  unfold SE_makeRoom at h
  refine lv_aload_n X.1 X.2.1 dX4_makeRoom_0 rfl (lv_at hl 0 rfl) ?_
  refine lv_aload_n X.1 X.2.1 dX4_makeRoom_1 rfl (lv_at hl 0 rfl) ?_
  refine g_get X hP 0 4 2 (v := .ref hSB) rfl rfl inX4 (by decide) fl_X4_11 rfl dX4_makeRoom_2 ?_
  refine lv_sipush (v := (10000 : Int32)) X.1 X.2.1 dX4_makeRoom_5 (by decide) ?_
  obtain ⟨hln, h⟩ := h
  refine g_cr (wr := [cSE hSE se_count se_length hSB hSL hSP hSU hSS se_found se_overfull, cI G hSL sl_n aSL, cI G hSP sp_n aSP, cI G hSU su_n aSU, cI G hSS ss_n aSS]) X [1] [0, 2, 3, 4, 5] (g_rS (As := [.ref hSB, .int (nI 10000)]) (rest := [.ref hSE]) X (c_copyJ l G hSB sb_n 10000 aSB hln (by decide) _) lk_X4_114 rfl rfl ⟨Nat.le_of_ble_eq_true rfl, Nat.le_of_ble_eq_true rfl⟩ hP hD hS [1] rfl rfl rfl hl.1 rfl (Nat.le_of_ble_eq_true rfl) dX4_makeRoom_8 ⟨Nat.le_of_ble_eq_true rfl, Nat.le_of_ble_eq_true rfl⟩) hP hD hS rfl rfl rfl (by decide) (fun aSB_1 hNew_2 H locs hu hP hD hS => ?_)
  replace h := h aSB_1 hu
  replace hP := hP.sub (ws' := [cSE hSE se_count se_length hSB hSL hSP hSU hSS se_found se_overfull, cJ G hSB sb_n aSB, cI G hSL sl_n aSL, cI G hSP sp_n aSP, cI G hSU su_n aSU, cI G hSS ss_n aSS, cJ G hNew_2 10000 aSB_1]) [0, 5, 1, 2, 3, 4, 6] rfl
  replace hD := hD.sub (ws' := [cSE hSE se_count se_length hSB hSL hSP hSU hSS se_found se_overfull, cJ G hSB sb_n aSB, cI G hSL sl_n aSL, cI G hSP sp_n aSP, cI G hSU su_n aSU, cI G hSS ss_n aSS, cJ G hNew_2 10000 aSB_1]) [0, 5, 1, 2, 3, 4, 6] rfl rfl
  refine g_put X hP hD hS 0 4 2 (v := .ref hNew_2) rfl rfl inX4 tyX4 tyX4_ok nmX4 (by decide) fl_X4_11 rfl rfl rfl rfl (Nat.le_of_ble_eq_true rfl) dX4_makeRoom_11 (fun H locs hP hD hS => ?_)
  replace hP := hP.sub (ws' := [cSE hSE se_count se_length hNew_2 hSL hSP hSU hSS se_found se_overfull, cJ G hNew_2 10000 aSB_1, cI G hSL sl_n aSL, cI G hSP sp_n aSP, cI G hSU su_n aSU, cI G hSS ss_n aSS]) [0, 6, 2, 3, 4, 5] rfl
  replace hD := hD.sub (ws' := [cSE hSE se_count se_length hNew_2 hSL hSP hSU hSS se_found se_overfull, cJ G hNew_2 10000 aSB_1, cI G hSL sl_n aSL, cI G hSP sp_n aSP, cI G hSU su_n aSU, cI G hSS ss_n aSS]) [0, 6, 2, 3, 4, 5] rfl rfl
  refine lv_aload_n X.1 X.2.1 dX4_makeRoom_14 rfl (lv_at hl 0 rfl) ?_
  refine lv_aload_n X.1 X.2.1 dX4_makeRoom_15 rfl (lv_at hl 0 rfl) ?_
  refine g_get X hP 0 4 3 (v := .ref hSL) rfl rfl inX4 (by decide) fl_X4_15 rfl dX4_makeRoom_16 ?_
  refine lv_sipush (v := (10000 : Int32)) X.1 X.2.1 dX4_makeRoom_19 (by decide) ?_
  obtain ⟨hln, h⟩ := h
  refine g_cr (wr := [cSE hSE se_count se_length hNew_2 hSL hSP hSU hSS se_found se_overfull, cJ G hNew_2 10000 aSB_1, cI G hSP sp_n aSP, cI G hSU su_n aSU, cI G hSS ss_n aSS]) X [2] [0, 1, 3, 4, 5] (g_rS (As := [.ref hSL, .int (nI 10000)]) (rest := [.ref hSE]) X (c_copyI l G hSL sl_n 10000 aSL hln (by decide) _) lk_X4_118 rfl rfl ⟨Nat.le_of_ble_eq_true rfl, Nat.le_of_ble_eq_true rfl⟩ hP hD hS [2] rfl rfl rfl hl.1 rfl (Nat.le_of_ble_eq_true rfl) dX4_makeRoom_22 ⟨Nat.le_of_ble_eq_true rfl, Nat.le_of_ble_eq_true rfl⟩) hP hD hS rfl rfl rfl (by decide) (fun aSL_3 hNew_4 H locs hu hP hD hS => ?_)
  replace h := h aSL_3 hu
  replace hP := hP.sub (ws' := [cSE hSE se_count se_length hNew_2 hSL hSP hSU hSS se_found se_overfull, cJ G hNew_2 10000 aSB_1, cI G hSL sl_n aSL, cI G hSP sp_n aSP, cI G hSU su_n aSU, cI G hSS ss_n aSS, cI G hNew_4 10000 aSL_3]) [0, 1, 5, 2, 3, 4, 6] rfl
  replace hD := hD.sub (ws' := [cSE hSE se_count se_length hNew_2 hSL hSP hSU hSS se_found se_overfull, cJ G hNew_2 10000 aSB_1, cI G hSL sl_n aSL, cI G hSP sp_n aSP, cI G hSU su_n aSU, cI G hSS ss_n aSS, cI G hNew_4 10000 aSL_3]) [0, 1, 5, 2, 3, 4, 6] rfl rfl
  refine g_put X hP hD hS 0 4 3 (v := .ref hNew_4) rfl rfl inX4 tyX4 tyX4_ok nmX4 (by decide) fl_X4_15 rfl rfl rfl rfl (Nat.le_of_ble_eq_true rfl) dX4_makeRoom_25 (fun H locs hP hD hS => ?_)
  replace hP := hP.sub (ws' := [cSE hSE se_count se_length hNew_2 hNew_4 hSP hSU hSS se_found se_overfull, cJ G hNew_2 10000 aSB_1, cI G hNew_4 10000 aSL_3, cI G hSP sp_n aSP, cI G hSU su_n aSU, cI G hSS ss_n aSS]) [0, 1, 6, 3, 4, 5] rfl
  replace hD := hD.sub (ws' := [cSE hSE se_count se_length hNew_2 hNew_4 hSP hSU hSS se_found se_overfull, cJ G hNew_2 10000 aSB_1, cI G hNew_4 10000 aSL_3, cI G hSP sp_n aSP, cI G hSU su_n aSU, cI G hSS ss_n aSS]) [0, 1, 6, 3, 4, 5] rfl rfl
  refine lv_aload_n X.1 X.2.1 dX4_makeRoom_28 rfl (lv_at hl 0 rfl) ?_
  refine lv_aload_n X.1 X.2.1 dX4_makeRoom_29 rfl (lv_at hl 0 rfl) ?_
  refine g_get X hP 0 4 4 (v := .ref hSP) rfl rfl inX4 (by decide) fl_X4_19 rfl dX4_makeRoom_30 ?_
  refine lv_sipush (v := (10000 : Int32)) X.1 X.2.1 dX4_makeRoom_33 (by decide) ?_
  obtain ⟨hln, h⟩ := h
  refine g_cr (wr := [cSE hSE se_count se_length hNew_2 hNew_4 hSP hSU hSS se_found se_overfull, cJ G hNew_2 10000 aSB_1, cI G hNew_4 10000 aSL_3, cI G hSU su_n aSU, cI G hSS ss_n aSS]) X [3] [0, 1, 2, 4, 5] (g_rS (As := [.ref hSP, .int (nI 10000)]) (rest := [.ref hSE]) X (c_copyI l G hSP sp_n 10000 aSP hln (by decide) _) lk_X4_118 rfl rfl ⟨Nat.le_of_ble_eq_true rfl, Nat.le_of_ble_eq_true rfl⟩ hP hD hS [3] rfl rfl rfl hl.1 rfl (Nat.le_of_ble_eq_true rfl) dX4_makeRoom_36 ⟨Nat.le_of_ble_eq_true rfl, Nat.le_of_ble_eq_true rfl⟩) hP hD hS rfl rfl rfl (by decide) (fun aSP_5 hNew_6 H locs hu hP hD hS => ?_)
  replace h := h aSP_5 hu
  replace hP := hP.sub (ws' := [cSE hSE se_count se_length hNew_2 hNew_4 hSP hSU hSS se_found se_overfull, cJ G hNew_2 10000 aSB_1, cI G hNew_4 10000 aSL_3, cI G hSP sp_n aSP, cI G hSU su_n aSU, cI G hSS ss_n aSS, cI G hNew_6 10000 aSP_5]) [0, 1, 2, 5, 3, 4, 6] rfl
  replace hD := hD.sub (ws' := [cSE hSE se_count se_length hNew_2 hNew_4 hSP hSU hSS se_found se_overfull, cJ G hNew_2 10000 aSB_1, cI G hNew_4 10000 aSL_3, cI G hSP sp_n aSP, cI G hSU su_n aSU, cI G hSS ss_n aSS, cI G hNew_6 10000 aSP_5]) [0, 1, 2, 5, 3, 4, 6] rfl rfl
  refine g_put X hP hD hS 0 4 4 (v := .ref hNew_6) rfl rfl inX4 tyX4 tyX4_ok nmX4 (by decide) fl_X4_19 rfl rfl rfl rfl (Nat.le_of_ble_eq_true rfl) dX4_makeRoom_39 (fun H locs hP hD hS => ?_)
  replace hP := hP.sub (ws' := [cSE hSE se_count se_length hNew_2 hNew_4 hNew_6 hSU hSS se_found se_overfull, cJ G hNew_2 10000 aSB_1, cI G hNew_4 10000 aSL_3, cI G hNew_6 10000 aSP_5, cI G hSU su_n aSU, cI G hSS ss_n aSS]) [0, 1, 2, 6, 4, 5] rfl
  replace hD := hD.sub (ws' := [cSE hSE se_count se_length hNew_2 hNew_4 hNew_6 hSU hSS se_found se_overfull, cJ G hNew_2 10000 aSB_1, cI G hNew_4 10000 aSL_3, cI G hNew_6 10000 aSP_5, cI G hSU su_n aSU, cI G hSS ss_n aSS]) [0, 1, 2, 6, 4, 5] rfl rfl
  refine lv_aload_n X.1 X.2.1 dX4_makeRoom_42 rfl (lv_at hl 0 rfl) ?_
  refine lv_aload_n X.1 X.2.1 dX4_makeRoom_43 rfl (lv_at hl 0 rfl) ?_
  refine g_get X hP 0 4 5 (v := .ref hSU) rfl rfl inX4 (by decide) fl_X4_22 rfl dX4_makeRoom_44 ?_
  refine lv_sipush (v := (10000 : Int32)) X.1 X.2.1 dX4_makeRoom_47 (by decide) ?_
  obtain ⟨hln, h⟩ := h
  refine g_cr (wr := [cSE hSE se_count se_length hNew_2 hNew_4 hNew_6 hSU hSS se_found se_overfull, cJ G hNew_2 10000 aSB_1, cI G hNew_4 10000 aSL_3, cI G hNew_6 10000 aSP_5, cI G hSS ss_n aSS]) X [4] [0, 1, 2, 3, 5] (g_rS (As := [.ref hSU, .int (nI 10000)]) (rest := [.ref hSE]) X (c_copyI l G hSU su_n 10000 aSU hln (by decide) _) lk_X4_118 rfl rfl ⟨Nat.le_of_ble_eq_true rfl, Nat.le_of_ble_eq_true rfl⟩ hP hD hS [4] rfl rfl rfl hl.1 rfl (Nat.le_of_ble_eq_true rfl) dX4_makeRoom_50 ⟨Nat.le_of_ble_eq_true rfl, Nat.le_of_ble_eq_true rfl⟩) hP hD hS rfl rfl rfl (by decide) (fun aSU_7 hNew_8 H locs hu hP hD hS => ?_)
  replace h := h aSU_7 hu
  replace hP := hP.sub (ws' := [cSE hSE se_count se_length hNew_2 hNew_4 hNew_6 hSU hSS se_found se_overfull, cJ G hNew_2 10000 aSB_1, cI G hNew_4 10000 aSL_3, cI G hNew_6 10000 aSP_5, cI G hSU su_n aSU, cI G hSS ss_n aSS, cI G hNew_8 10000 aSU_7]) [0, 1, 2, 3, 5, 4, 6] rfl
  replace hD := hD.sub (ws' := [cSE hSE se_count se_length hNew_2 hNew_4 hNew_6 hSU hSS se_found se_overfull, cJ G hNew_2 10000 aSB_1, cI G hNew_4 10000 aSL_3, cI G hNew_6 10000 aSP_5, cI G hSU su_n aSU, cI G hSS ss_n aSS, cI G hNew_8 10000 aSU_7]) [0, 1, 2, 3, 5, 4, 6] rfl rfl
  refine g_put X hP hD hS 0 4 5 (v := .ref hNew_8) rfl rfl inX4 tyX4 tyX4_ok nmX4 (by decide) fl_X4_22 rfl rfl rfl rfl (Nat.le_of_ble_eq_true rfl) dX4_makeRoom_53 (fun H locs hP hD hS => ?_)
  replace hP := hP.sub (ws' := [cSE hSE se_count se_length hNew_2 hNew_4 hNew_6 hNew_8 hSS se_found se_overfull, cJ G hNew_2 10000 aSB_1, cI G hNew_4 10000 aSL_3, cI G hNew_6 10000 aSP_5, cI G hNew_8 10000 aSU_7, cI G hSS ss_n aSS]) [0, 1, 2, 3, 6, 5] rfl
  replace hD := hD.sub (ws' := [cSE hSE se_count se_length hNew_2 hNew_4 hNew_6 hNew_8 hSS se_found se_overfull, cJ G hNew_2 10000 aSB_1, cI G hNew_4 10000 aSL_3, cI G hNew_6 10000 aSP_5, cI G hNew_8 10000 aSU_7, cI G hSS ss_n aSS]) [0, 1, 2, 3, 6, 5] rfl rfl
  refine lv_aload_n X.1 X.2.1 dX4_makeRoom_56 rfl (lv_at hl 0 rfl) ?_
  refine lv_sipush (v := (16384 : Int32)) X.1 X.2.1 dX4_makeRoom_57 (by decide) ?_
  refine g_newI X wa_I hP hD hS 16384 (by decide) (by decide) (Nat.le_of_ble_eq_true rfl) (Nat.le_of_ble_eq_true rfl) (Nat.le_of_ble_eq_true rfl) dX4_makeRoom_60 (fun hNew_9 H hP hD hS => ?_)
  replace hP : va_P G.1 gCl [cSE hSE se_count se_length hNew_2 hNew_4 hNew_6 hNew_8 hSS se_found se_overfull, cJ G hNew_2 10000 aSB_1, cI G hNew_4 10000 aSL_3, cI G hNew_6 10000 aSP_5, cI G hNew_8 10000 aSU_7, cI G hSS ss_n aSS, cI G hNew_9 16384 (fun _ => 0)] H := hP
  replace hD : va_D A [cSE hSE se_count se_length hNew_2 hNew_4 hNew_6 hNew_8 hSS se_found se_overfull, cJ G hNew_2 10000 aSB_1, cI G hNew_4 10000 aSL_3, cI G hNew_6 10000 aSP_5, cI G hNew_8 10000 aSU_7, cI G hSS ss_n aSS, cI G hNew_9 16384 (fun _ => 0)] := hD
  refine g_put X hP hD hS 0 4 6 (v := .ref hNew_9) rfl rfl inX4 tyX4 tyX4_ok nmX4 (by decide) fl_X4_25 rfl rfl rfl rfl (Nat.le_of_ble_eq_true rfl) dX4_makeRoom_62 (fun H locs hP hD hS => ?_)
  replace hP := hP.sub (ws' := [cSE hSE se_count se_length hNew_2 hNew_4 hNew_6 hNew_8 hNew_9 se_found se_overfull, cJ G hNew_2 10000 aSB_1, cI G hNew_4 10000 aSL_3, cI G hNew_6 10000 aSP_5, cI G hNew_8 10000 aSU_7, cI G hNew_9 16384 (fun _ => 0)]) [0, 1, 2, 3, 4, 6] rfl
  replace hD := hD.sub (ws' := [cSE hSE se_count se_length hNew_2 hNew_4 hNew_6 hNew_8 hNew_9 se_found se_overfull, cJ G hNew_2 10000 aSB_1, cI G hNew_4 10000 aSL_3, cI G hNew_6 10000 aSP_5, cI G hNew_8 10000 aSU_7, cI G hNew_9 16384 (fun _ => 0)]) [0, 1, 2, 3, 4, 6] rfl rfl
  refine lv_iconst (v := (0 : Int32)) X.1 X.2.1 dX4_makeRoom_65 (by decide) ?_
  refine lv_istore_n (lv' := [(1, .int (0 : Int32)), (0, .ref hSE)]) X.1 X.2.1 dX4_makeRoom_66 rfl hl (by decide) rfl (fun ls hl => ?_)
  obtain ⟨n', h⟩ := h
  exact s_SE_makeRoom_67 X  n' 10000 aSB_1 10000 aSL_3 10000 aSP_5 10000 aSU_7 16384 (fun _ => 0) (0 : Int32) hNew_2 hNew_4 hNew_6 hNew_8 hNew_9 _ _ _ h hP hD hS (lv_sub hl [1, 0] rfl)
abbrev rm_SE_takeIn (bc bs : Nat) : Room := { frames := 3, cells := bc, slots := bs, locals := 83 }
set_option maxHeartbeats 4000000 in
set_option maxRecDepth 100000 in
theorem s_SE_takeIn_16 {p : Program} {l : Launch} {e : Env} {s : State} {m : MethodId} {args : Array Value} {below : List Frame} {meth : Method} {c : Code} {G : gEnv} {A : Nat → Prop} {mbc mbs : Nat} {hSE : Nat} {se_length : Int32} {se_found : Int32} {se_overfull : Int32} {post : Int32 → Nat → (Nat → Int64) → Nat → (Nat → Int32) → Nat → (Nat → Int32) → Nat → (Nat → Int32) → Nat → (Nat → Int32) → Prop} (X : gX p m meth c cX4_takeIn 6 RX4 none s args G A)  : ∀ (bc bs : Nat) (se_count : Int32) (sb_n : Nat) (aSB : (Nat → Int64)) (sl_n : Nat) (aSL : (Nat → Int32)) (sp_n : Nat) (aSP : (Nat → Int32)) (su_n : Nat) (aSU : (Nat → Int32)) (ss_n : Nat) (aSS : (Nat → Int32)) (v1 : Int64) (v3 : Int32) (v4 : Int32) (v5 : Int32) (hSB hSL hSP hSU hSS : Nat) (cells slots : Nat) (H : Heap) (locs : List Loc) (ls : Array Slot), SE_takeIn_16 post bc bs se_count sb_n aSB sl_n aSL sp_n aSP su_n aSU ss_n aSS v1 v3 v4 v5 → cells + bc ≤ mbc → slots + bs ≤ mbs → va_P G.1 gCl [cSE hSE se_count se_length hSB hSL hSP hSU hSS se_found se_overfull, cJ G hSB sb_n aSB, cI G hSL sl_n aSL, cI G hSP sp_n aSP, cI G hSU su_n aSU, cI G hSS ss_n aSS] H → va_D A [cSE hSE se_count se_length hSB hSL hSP hSU hSS se_found se_overfull, cJ G hSB sb_n aSB, cI G hSL sl_n aSL, cI G hSP sp_n aSP, cI G hSU su_n aSU, cI G hSS ss_n aSS] → va_S A s.heap H locs → lv_has ls 6 [(0, .ref hSE), (1, .long v1), (3, .int v3), (4, .int v4), (5, .int v5)] → W p l e (rm_SE_takeIn mbc mbs) s m args below meth c H locs cells slots (MQ below (gQv G (fun (u : Int32 × Nat × (Nat → Int64) × Nat × (Nat → Int32) × Nat × (Nat → Int32) × Nat × (Nat → Int32) × Nat × (Nat → Int32) × Nat × Nat × Nat × Nat × Nat) => post u.1 u.2.1 u.2.2.1 u.2.2.2.1 u.2.2.2.2.1 u.2.2.2.2.2.1 u.2.2.2.2.2.2.1 u.2.2.2.2.2.2.2.1 u.2.2.2.2.2.2.2.2.1 u.2.2.2.2.2.2.2.2.2.1 u.2.2.2.2.2.2.2.2.2.2.1) (fun (u : Int32 × Nat × (Nat → Int64) × Nat × (Nat → Int32) × Nat × (Nat → Int32) × Nat × (Nat → Int32) × Nat × (Nat → Int32) × Nat × Nat × Nat × Nat × Nat) => [cSE hSE u.1 se_length u.2.2.2.2.2.2.2.2.2.2.2.1 u.2.2.2.2.2.2.2.2.2.2.2.2.1 u.2.2.2.2.2.2.2.2.2.2.2.2.2.1 u.2.2.2.2.2.2.2.2.2.2.2.2.2.2.1 u.2.2.2.2.2.2.2.2.2.2.2.2.2.2.2 se_found se_overfull, cJ G u.2.2.2.2.2.2.2.2.2.2.2.1 u.2.1 u.2.2.1, cI G u.2.2.2.2.2.2.2.2.2.2.2.2.1 u.2.2.2.1 u.2.2.2.2.1, cI G u.2.2.2.2.2.2.2.2.2.2.2.2.2.1 u.2.2.2.2.2.1 u.2.2.2.2.2.2.1, cI G u.2.2.2.2.2.2.2.2.2.2.2.2.2.2.1 u.2.2.2.2.2.2.2.1 u.2.2.2.2.2.2.2.2.1, cI G u.2.2.2.2.2.2.2.2.2.2.2.2.2.2.2 u.2.2.2.2.2.2.2.2.2.1 u.2.2.2.2.2.2.2.2.2.2.1]) A) args s mbc mbs A) (F0 m 16 ls []) := by
  intro bc bs se_count sb_n aSB sl_n aSL sp_n aSP su_n aSU ss_n aSS v1 v3 v4 v5 hSB hSL hSP hSU hSS cells slots H locs ls h hbc hbs hP hD hS hl
  unfold SE_takeIn_16 at h
  refine lv_aload_n X.1 X.2.1 dX4_takeIn_16 rfl (lv_at hl 0 rfl) ?_
  refine g_get X hP 0 4 2 (v := .ref hSB) rfl rfl inX4 (by decide) fl_X4_11 rfl dX4_takeIn_17 ?_
  refine lv_aload_n X.1 X.2.1 dX4_takeIn_20 rfl (lv_at hl 0 rfl) ?_
  refine g_get X hP 0 4 0 (v := .int se_count) rfl rfl inX4 (by decide) fl_X4_34 rfl dX4_takeIn_21 ?_
  refine lv_lload_n X.1 X.2.1 dX4_takeIn_24 rfl (lv_at hl 1 rfl) ?_
  obtain ⟨hin, h⟩ := h
  refine g_lst X hP hD hS 1 rfl hin dX4_takeIn_25 (fun aSB_1 e_aSB_1 H locs hP hD hS => ?_)
  replace h := h aSB_1 e_aSB_1
  replace hP : va_P G.1 gCl [cSE hSE se_count se_length hSB hSL hSP hSU hSS se_found se_overfull, cJ G hSB sb_n aSB_1, cI G hSL sl_n aSL, cI G hSP sp_n aSP, cI G hSU su_n aSU, cI G hSS ss_n aSS] H := hP
  replace hD : va_D A [cSE hSE se_count se_length hSB hSL hSP hSU hSS se_found se_overfull, cJ G hSB sb_n aSB_1, cI G hSL sl_n aSL, cI G hSP sp_n aSP, cI G hSU su_n aSU, cI G hSS ss_n aSS] := hD
  refine lv_aload_n X.1 X.2.1 dX4_takeIn_26 rfl (lv_at hl 0 rfl) ?_
  refine g_get X hP 0 4 3 (v := .ref hSL) rfl rfl inX4 (by decide) fl_X4_15 rfl dX4_takeIn_27 ?_
  refine lv_aload_n X.1 X.2.1 dX4_takeIn_30 rfl (lv_at hl 0 rfl) ?_
  refine g_get X hP 0 4 0 (v := .int se_count) rfl rfl inX4 (by decide) fl_X4_34 rfl dX4_takeIn_31 ?_
  refine lv_iload_n X.1 X.2.1 dX4_takeIn_34 rfl (lv_at hl 2 rfl) ?_
  obtain ⟨hin, h⟩ := h
  refine g_ist X hP hD hS 2 rfl hin dX4_takeIn_35 (fun aSL_2 e_aSL_2 H locs hP hD hS => ?_)
  replace h := h aSL_2 e_aSL_2
  replace hP : va_P G.1 gCl [cSE hSE se_count se_length hSB hSL hSP hSU hSS se_found se_overfull, cJ G hSB sb_n aSB_1, cI G hSL sl_n aSL_2, cI G hSP sp_n aSP, cI G hSU su_n aSU, cI G hSS ss_n aSS] H := hP
  replace hD : va_D A [cSE hSE se_count se_length hSB hSL hSP hSU hSS se_found se_overfull, cJ G hSB sb_n aSB_1, cI G hSL sl_n aSL_2, cI G hSP sp_n aSP, cI G hSU su_n aSU, cI G hSS ss_n aSS] := hD
  refine lv_aload_n X.1 X.2.1 dX4_takeIn_36 rfl (lv_at hl 0 rfl) ?_
  refine g_get X hP 0 4 4 (v := .ref hSP) rfl rfl inX4 (by decide) fl_X4_19 rfl dX4_takeIn_37 ?_
  refine lv_aload_n X.1 X.2.1 dX4_takeIn_40 rfl (lv_at hl 0 rfl) ?_
  refine g_get X hP 0 4 0 (v := .int se_count) rfl rfl inX4 (by decide) fl_X4_34 rfl dX4_takeIn_41 ?_
  refine lv_iload X.1 X.2.1 dX4_takeIn_44 (lv_at hl 3 rfl) ?_
  obtain ⟨hin, h⟩ := h
  refine g_ist X hP hD hS 3 rfl hin dX4_takeIn_46 (fun aSP_3 e_aSP_3 H locs hP hD hS => ?_)
  replace h := h aSP_3 e_aSP_3
  replace hP : va_P G.1 gCl [cSE hSE se_count se_length hSB hSL hSP hSU hSS se_found se_overfull, cJ G hSB sb_n aSB_1, cI G hSL sl_n aSL_2, cI G hSP sp_n aSP_3, cI G hSU su_n aSU, cI G hSS ss_n aSS] H := hP
  replace hD : va_D A [cSE hSE se_count se_length hSB hSL hSP hSU hSS se_found se_overfull, cJ G hSB sb_n aSB_1, cI G hSL sl_n aSL_2, cI G hSP sp_n aSP_3, cI G hSU su_n aSU, cI G hSS ss_n aSS] := hD
  refine lv_aload_n X.1 X.2.1 dX4_takeIn_47 rfl (lv_at hl 0 rfl) ?_
  refine g_get X hP 0 4 5 (v := .ref hSU) rfl rfl inX4 (by decide) fl_X4_22 rfl dX4_takeIn_48 ?_
  refine lv_aload_n X.1 X.2.1 dX4_takeIn_51 rfl (lv_at hl 0 rfl) ?_
  refine g_get X hP 0 4 0 (v := .int se_count) rfl rfl inX4 (by decide) fl_X4_34 rfl dX4_takeIn_52 ?_
  refine lv_iload X.1 X.2.1 dX4_takeIn_55 (lv_at hl 4 rfl) ?_
  obtain ⟨hin, h⟩ := h
  refine g_ist X hP hD hS 4 rfl hin dX4_takeIn_57 (fun aSU_4 e_aSU_4 H locs hP hD hS => ?_)
  replace h := h aSU_4 e_aSU_4
  replace hP : va_P G.1 gCl [cSE hSE se_count se_length hSB hSL hSP hSU hSS se_found se_overfull, cJ G hSB sb_n aSB_1, cI G hSL sl_n aSL_2, cI G hSP sp_n aSP_3, cI G hSU su_n aSU_4, cI G hSS ss_n aSS] H := hP
  replace hD : va_D A [cSE hSE se_count se_length hSB hSL hSP hSU hSS se_found se_overfull, cJ G hSB sb_n aSB_1, cI G hSL sl_n aSL_2, cI G hSP sp_n aSP_3, cI G hSU su_n aSU_4, cI G hSS ss_n aSS] := hD
  refine lv_aload_n X.1 X.2.1 dX4_takeIn_58 rfl (lv_at hl 0 rfl) ?_
  refine lv_dup X.1 X.2.1 dX4_takeIn_59 rfl ?_
  refine g_get X hP 0 4 0 (v := .int se_count) rfl rfl inX4 (by decide) fl_X4_34 rfl dX4_takeIn_60 ?_
  refine lv_iconst (v := (1 : Int32)) X.1 X.2.1 dX4_takeIn_63 (by decide) ?_
  refine lv_iadd X.1 X.2.1 dX4_takeIn_64 ?_
  refine lv_topi (fun se_count_5 e_se_count_5 => ?_)
  replace h := h se_count_5 e_se_count_5
  refine g_put X hP hD hS 0 4 0 (v := .int se_count_5) rfl rfl inX4 tyX4 tyX4_ok nmX4 (by decide) fl_X4_34 rfl rfl rfl rfl (Nat.le_of_ble_eq_true rfl) dX4_takeIn_65 (fun H locs hP hD hS => ?_)
  replace hP : va_P G.1 gCl [cSE hSE se_count_5 se_length hSB hSL hSP hSU hSS se_found se_overfull, cJ G hSB sb_n aSB_1, cI G hSL sl_n aSL_2, cI G hSP sp_n aSP_3, cI G hSU su_n aSU_4, cI G hSS ss_n aSS] H := hP
  replace hD : va_D A [cSE hSE se_count_5 se_length hSB hSL hSP hSU hSS se_found se_overfull, cJ G hSB sb_n aSB_1, cI G hSL sl_n aSL_2, cI G hSP sp_n aSP_3, cI G hSU su_n aSU_4, cI G hSS ss_n aSS] := hD
  refine lv_aload_n X.1 X.2.1 dX4_takeIn_68 rfl (lv_at hl 0 rfl) ?_
  refine g_get X hP 0 4 6 (v := .ref hSS) rfl rfl inX4 (by decide) fl_X4_25 rfl dX4_takeIn_69 ?_
  refine lv_aload_n X.1 X.2.1 dX4_takeIn_72 rfl (lv_at hl 0 rfl) ?_
  refine lv_lload_n X.1 X.2.1 dX4_takeIn_73 rfl (lv_at hl 1 rfl) ?_
  refine lv_iload_n X.1 X.2.1 dX4_takeIn_74 rfl (lv_at hl 2 rfl) ?_
  refine g_ci (wr := [cI G hSP sp_n aSP_3, cI G hSU su_n aSU_4]) X [0, 1, 2, 5] [3, 4] (g_rV (As := [.long v1, .int v3]) (rest := [.ref hSS]) X (c_SE_slotOf l G hSE hSB hSL hSP hSU hSS se_count_5 se_length se_found se_overfull sb_n aSB_1 sl_n aSL_2 ss_n aSS v1 v3 _ h _) lk_X4_107 rfl rfl ⟨Nat.le_of_ble_eq_true rfl, Nat.le_of_ble_eq_true rfl⟩ hP hD hS [0, 1, 2, 5] rfl rfl 0 4 rfl rfl rfl hl.1 rfl (Nat.le_of_ble_eq_true rfl) dX4_takeIn_75 ⟨show cells + 0 ≤ mbc by omega, show slots + 0 ≤ mbs by omega⟩) hP hD hS rfl rfl rfl (by decide) (fun r_6 u H locs h hP hD hS => ?_)
  try dsimp only at h
  replace hP := hP.sub (ws' := [cSE hSE se_count_5 se_length hSB hSL hSP hSU hSS se_found se_overfull, cJ G hSB sb_n aSB_1, cI G hSL sl_n aSL_2, cI G hSP sp_n aSP_3, cI G hSU su_n aSU_4, cI G hSS ss_n aSS]) [2, 3, 4, 0, 1, 5] rfl
  replace hD := hD.sub (ws' := [cSE hSE se_count_5 se_length hSB hSL hSP hSU hSS se_found se_overfull, cJ G hSB sb_n aSB_1, cI G hSL sl_n aSL_2, cI G hSP sp_n aSP_3, cI G hSU su_n aSU_4, cI G hSS ss_n aSS]) [2, 3, 4, 0, 1, 5] rfl rfl
  refine lv_aload_n X.1 X.2.1 dX4_takeIn_78 rfl (lv_at hl 0 rfl) ?_
  refine g_get X hP 0 4 0 (v := .int se_count_5) rfl rfl inX4 (by decide) fl_X4_34 rfl dX4_takeIn_79 ?_
  obtain ⟨hin, h⟩ := h
  refine g_ist X hP hD hS 5 rfl hin dX4_takeIn_82 (fun aSS_7 e_aSS_7 H locs hP hD hS => ?_)
  replace h := h aSS_7 e_aSS_7
  replace hP : va_P G.1 gCl [cSE hSE se_count_5 se_length hSB hSL hSP hSU hSS se_found se_overfull, cJ G hSB sb_n aSB_1, cI G hSL sl_n aSL_2, cI G hSP sp_n aSP_3, cI G hSU su_n aSU_4, cI G hSS ss_n aSS_7] H := hP
  replace hD : va_D A [cSE hSE se_count_5 se_length hSB hSL hSP hSU hSS se_found se_overfull, cJ G hSB sb_n aSB_1, cI G hSL sl_n aSL_2, cI G hSP sp_n aSP_3, cI G hSU su_n aSU_4, cI G hSS ss_n aSS_7] := hD
  refine W.widen (k := mbc) (n := mbs) (by omega) (by omega) ?_
  exact g_vret X (se_count_5, sb_n, aSB_1, sl_n, aSL_2, sp_n, aSP_3, su_n, aSU_4, ss_n, aSS_7, hSB, hSL, hSP, hSU, hSS) h hP hD hS dX4_takeIn_83
set_option maxHeartbeats 4000000 in
set_option maxRecDepth 100000 in
theorem c_SE_takeIn (l : Launch) (G : gEnv) (hSE : Nat) (hSB : Nat) (hSL : Nat) (hSP : Nat) (hSU : Nat) (hSS : Nat) (se_count : Int32) (se_length : Int32) (se_found : Int32) (se_overfull : Int32) (sb_n : Nat) (aSB : Nat → Int64) (sl_n : Nat) (aSL : Nat → Int32) (sp_n : Nat) (aSP : Nat → Int32) (su_n : Nat) (aSU : Nat → Int32) (ss_n : Nat) (aSS : Nat → Int32) (v1 : Int64) (v3 : Int32) (v4 : Int32) (v5 : Int32) (bc bs : Nat) (post : Int32 → Nat → (Nat → Int64) → Nat → (Nat → Int32) → Nat → (Nat → Int32) → Nat → (Nat → Int32) → Nat → (Nat → Int32) → Prop) (h : SE_takeIn se_count sb_n aSB sl_n aSL sp_n aSP su_n aSU ss_n aSS v1 v3 v4 v5 bc bs post) (sz : Nat) : Met l yX4_takeIn (Cond.code yX4_takeIn cX4_takeIn 6 none :: wAll) (rm_SE_takeIn bc bs) (gPc G [.ref hSE, .long v1, .int v3, .int v4, .int v5] [cSE hSE se_count se_length hSB hSL hSP hSU hSS se_found se_overfull, cJ G hSB sb_n aSB, cI G hSL sl_n aSL, cI G hSP sp_n aSP, cI G hSU su_n aSU, cI G hSS ss_n aSS] sz) (gQv G (fun (u : Int32 × Nat × (Nat → Int64) × Nat × (Nat → Int32) × Nat × (Nat → Int32) × Nat × (Nat → Int32) × Nat × (Nat → Int32) × Nat × Nat × Nat × Nat × Nat) => post u.1 u.2.1 u.2.2.1 u.2.2.2.1 u.2.2.2.2.1 u.2.2.2.2.2.1 u.2.2.2.2.2.2.1 u.2.2.2.2.2.2.2.1 u.2.2.2.2.2.2.2.2.1 u.2.2.2.2.2.2.2.2.2.1 u.2.2.2.2.2.2.2.2.2.2.1) (fun (u : Int32 × Nat × (Nat → Int64) × Nat × (Nat → Int32) × Nat × (Nat → Int32) × Nat × (Nat → Int32) × Nat × (Nat → Int32) × Nat × Nat × Nat × Nat × Nat) => [cSE hSE u.1 se_length u.2.2.2.2.2.2.2.2.2.2.2.1 u.2.2.2.2.2.2.2.2.2.2.2.2.1 u.2.2.2.2.2.2.2.2.2.2.2.2.2.1 u.2.2.2.2.2.2.2.2.2.2.2.2.2.2.1 u.2.2.2.2.2.2.2.2.2.2.2.2.2.2.2 se_found se_overfull, cJ G u.2.2.2.2.2.2.2.2.2.2.2.1 u.2.1 u.2.2.1, cI G u.2.2.2.2.2.2.2.2.2.2.2.2.1 u.2.2.2.1 u.2.2.2.2.1, cI G u.2.2.2.2.2.2.2.2.2.2.2.2.2.1 u.2.2.2.2.2.1 u.2.2.2.2.2.2.1, cI G u.2.2.2.2.2.2.2.2.2.2.2.2.2.2.1 u.2.2.2.2.2.2.2.1 u.2.2.2.2.2.2.2.2.1, cI G u.2.2.2.2.2.2.2.2.2.2.2.2.2.2.2 u.2.2.2.2.2.2.2.2.2.1 u.2.2.2.2.2.2.2.2.2.2.1]) (va_A [cSE hSE se_count se_length hSB hSL hSP hSU hSS se_found se_overfull, cJ G hSB sb_n aSB, cI G hSL sl_n aSL, cI G hSP sp_n aSP, cI G hSU su_n aSU, cI G hSS ss_n aSS] sz)) bc bs (va_A [cSE hSE se_count se_length hSB hSL hSP hSU hSS se_found se_overfull, cJ G hSB sb_n aSB, cI G hSL sl_n aSL, cI G hSP sp_n aSP, cI G hSU su_n aSU, cI G hSS ss_n aSS] sz) := by
  refine Met.ofW (cc := cX4_takeIn) (maxL := 6) (ret := none) (by decide) rfl ?_
  intro p e s m args below meth c s₁ B hml hv
  obtain ⟨rfl, hsz, hP, hK, hD0⟩ := hv
  subst hsz
  have X := gX.ofB (ws := [cSE hSE se_count se_length hSB hSL hSP hSU hSS se_found se_overfull, cJ G hSB sb_n aSB, cI G hSL sl_n aSL, cI G hSP sp_n aSP, cI G hSU su_n aSU, cI G hSS ss_n aSS]) B hml hK hD0
  have hD := hD0.self (sz := s.heap.size)
  generalize hAe : va_A [cSE hSE se_count se_length hSB hSL hSP hSU hSS se_found se_overfull, cJ G hSB sb_n aSB, cI G hSL sl_n aSL, cI G hSP sp_n aSP, cI G hSU su_n aSU, cI G hSS ss_n aSS] s.heap.size = A at X hD ⊢
  have hS : va_S A s.heap s.heap [] := va_S.rf
  have hl := lv_entry ([.ref hSE, .long v1, .int v3, .int v4, .int v5]) (n := 6) (Nat.le_of_ble_eq_true rfl)
  rw [lg_entry_eq]
  generalize (lg_sl ([.ref hSE, .long v1, .int v3, .int v4, .int v5]) ++ List.replicate (6 - (lg_sl ([.ref hSE, .long v1, .int v3, .int v4, .int v5])).length) Slot.unset).toArray = ls at hl ⊢
  have hl : lv_has ls 6 [(0, .ref hSE), (1, .long v1), (3, .int v3), (4, .int v4), (5, .int v5)] := hl
  dsimp only [headSpec]
  unfold SE_takeIn at h
  refine lv_aload_n X.1 X.2.1 dX4_takeIn_0 rfl (lv_at hl 0 rfl) ?_
  refine g_get X hP 0 4 0 (v := .int se_count) rfl rfl inX4 (by decide) fl_X4_34 rfl dX4_takeIn_1 ?_
  refine lv_aload_n X.1 X.2.1 dX4_takeIn_4 rfl (lv_at hl 0 rfl) ?_
  refine g_get X hP 0 4 2 (v := .ref hSB) rfl rfl inX4 (by decide) fl_X4_11 rfl dX4_takeIn_5 ?_
  refine va_alen (D := G.1) (v := (nI sb_n)) X.1 X.2.1 X.k.1 hP 1 1 rfl rfl rfl dX4_takeIn_8 ?_
  refine lv_icmp_lt (tgt := 16) X.1 X.2.1 dX4_takeIn_9 (by decide) (fun hc => ?_) (fun hc => ?_)
  · replace h := Eq.mp (if_pos hc) h
    exact s_SE_takeIn_16 X  bc bs se_count sb_n aSB sl_n aSL sp_n aSP su_n aSU ss_n aSS v1 v3 v4 v5 hSB hSL hSP hSU hSS 0 0 _ _ _ h (by omega) (by omega) hP hD hS (lv_sub hl [0, 1, 2, 3, 4] rfl)
  · replace h := Eq.mp (if_neg hc) h
    refine lv_aload_n X.1 X.2.1 dX4_takeIn_12 rfl (lv_at hl 0 rfl) ?_
    obtain ⟨hb1, hb2, h⟩ := h
    refine g_cv (wr := []) X [0, 1, 2, 3, 4, 5] [] (g_rV (As := []) (rest := []) X (c_SE_makeRoom l G hSE hSB hSL hSP hSU hSS se_count se_length se_found se_overfull sb_n aSB sl_n aSL sp_n aSP su_n aSU ss_n aSS _ h _) lk_X4_111 rfl rfl ⟨Nat.le_of_ble_eq_true rfl, Nat.le_of_ble_eq_true rfl⟩ hP hD hS [0, 1, 2, 3, 4, 5] rfl rfl 0 4 rfl rfl rfl hl.1 rfl (Nat.le_of_ble_eq_true rfl) dX4_takeIn_13 ⟨show 0 + 5 ≤ bc by omega, show 0 + 56384 ≤ bs by omega⟩) hP hD hS rfl rfl rfl (by decide) (fun u H locs h hP hD hS => ?_)
    obtain ⟨sb_n_1, aSB_2, sl_n_3, aSL_4, sp_n_5, aSP_6, su_n_7, aSU_8, ss_n_9, aSS_10, hSB_11, hSL_12, hSP_13, hSU_14, hSS_15⟩ := u
    try dsimp only at h
    replace hP := hP.sub (ws' := [cSE hSE se_count se_length hSB_11 hSL_12 hSP_13 hSU_14 hSS_15 se_found se_overfull, cJ G hSB_11 sb_n_1 aSB_2, cI G hSL_12 sl_n_3 aSL_4, cI G hSP_13 sp_n_5 aSP_6, cI G hSU_14 su_n_7 aSU_8, cI G hSS_15 ss_n_9 aSS_10]) [0, 1, 2, 3, 4, 5] rfl
    replace hD := hD.sub (ws' := [cSE hSE se_count se_length hSB_11 hSL_12 hSP_13 hSU_14 hSS_15 se_found se_overfull, cJ G hSB_11 sb_n_1 aSB_2, cI G hSL_12 sl_n_3 aSL_4, cI G hSP_13 sp_n_5 aSP_6, cI G hSU_14 su_n_7 aSU_8, cI G hSS_15 ss_n_9 aSS_10]) [0, 1, 2, 3, 4, 5] rfl rfl
    exact s_SE_takeIn_16 X  (bc - 5) (bs - 56384) se_count sb_n_1 aSB_2 sl_n_3 aSL_4 sp_n_5 aSP_6 su_n_7 aSU_8 ss_n_9 aSS_10 v1 v3 v4 v5 hSB_11 hSL_12 hSP_13 hSU_14 hSS_15 (0 + 5) (0 + 56384) _ _ _ h (by omega) (by omega) hP hD hS (lv_sub hl [0, 1, 2, 3, 4] rfl)
abbrev rm_SE_comeTo (bc bs : Nat) : Room := { frames := 4, cells := bc, slots := bs, locals := 108 }
set_option maxHeartbeats 4000000 in
set_option maxRecDepth 100000 in
theorem c_SE_comeTo (l : Launch) (G : gEnv) (hBO : Nat) (hBS : Nat) (hSE : Nat) (hSB : Nat) (hSL : Nat) (hSP : Nat) (hSU : Nat) (hSS : Nat) (bo_width : Int32) (bo_height : Int32) (bo_floor : Int64) (bo_goals : Int64) (bo_live : Int64) (bo_boxes : Int64) (bo_person : Int64) (bo_liveBesideInRow : Int64) (bo_liveBesideInColumn : Int64) (se_count : Int32) (se_length : Int32) (se_found : Int32) (se_overfull : Int32) (sb_n : Nat) (aSB : Nat → Int64) (sl_n : Nat) (aSL : Nat → Int32) (sp_n : Nat) (aSP : Nat → Int32) (su_n : Nat) (aSU : Nat → Int32) (ss_n : Nat) (aSS : Nat → Int32) (v2 : Int64) (v4 : Int64) (v6 : Int32) (v7 : Int32) (v8 : Int32) (bc bs : Nat) (post : Int32 → Int32 → Int32 → Nat → (Nat → Int64) → Nat → (Nat → Int32) → Nat → (Nat → Int32) → Nat → (Nat → Int32) → Nat → (Nat → Int32) → Prop) (h : SE_comeTo bo_floor bo_goals bo_liveBesideInRow bo_liveBesideInColumn se_count se_found se_overfull sb_n aSB sl_n aSL sp_n aSP su_n aSU ss_n aSS v2 v4 v6 v7 v8 bc bs post) (sz : Nat) : Met l yX4_comeTo (Cond.code yX4_comeTo cX4_comeTo 10 none :: wAll) (rm_SE_comeTo bc bs) (gPc G [.ref hSE, .ref hBO, .long v2, .long v4, .int v6, .int v7, .int v8] [cBO hBO bo_width bo_height bo_floor bo_goals bo_live bo_boxes bo_person hBS bo_liveBesideInRow bo_liveBesideInColumn, cSE hSE se_count se_length hSB hSL hSP hSU hSS se_found se_overfull, cJ G hSB sb_n aSB, cI G hSL sl_n aSL, cI G hSP sp_n aSP, cI G hSU su_n aSU, cI G hSS ss_n aSS] sz) (gQv G (fun (u : Int32 × Int32 × Int32 × Nat × (Nat → Int64) × Nat × (Nat → Int32) × Nat × (Nat → Int32) × Nat × (Nat → Int32) × Nat × (Nat → Int32) × Nat × Nat × Nat × Nat × Nat) => post u.1 u.2.1 u.2.2.1 u.2.2.2.1 u.2.2.2.2.1 u.2.2.2.2.2.1 u.2.2.2.2.2.2.1 u.2.2.2.2.2.2.2.1 u.2.2.2.2.2.2.2.2.1 u.2.2.2.2.2.2.2.2.2.1 u.2.2.2.2.2.2.2.2.2.2.1 u.2.2.2.2.2.2.2.2.2.2.2.1 u.2.2.2.2.2.2.2.2.2.2.2.2.1) (fun (u : Int32 × Int32 × Int32 × Nat × (Nat → Int64) × Nat × (Nat → Int32) × Nat × (Nat → Int32) × Nat × (Nat → Int32) × Nat × (Nat → Int32) × Nat × Nat × Nat × Nat × Nat) => [cBO hBO bo_width bo_height bo_floor bo_goals bo_live bo_boxes bo_person hBS bo_liveBesideInRow bo_liveBesideInColumn, cSE hSE u.1 se_length u.2.2.2.2.2.2.2.2.2.2.2.2.2.1 u.2.2.2.2.2.2.2.2.2.2.2.2.2.2.1 u.2.2.2.2.2.2.2.2.2.2.2.2.2.2.2.1 u.2.2.2.2.2.2.2.2.2.2.2.2.2.2.2.2.1 u.2.2.2.2.2.2.2.2.2.2.2.2.2.2.2.2.2 u.2.1 u.2.2.1, cJ G u.2.2.2.2.2.2.2.2.2.2.2.2.2.1 u.2.2.2.1 u.2.2.2.2.1, cI G u.2.2.2.2.2.2.2.2.2.2.2.2.2.2.1 u.2.2.2.2.2.1 u.2.2.2.2.2.2.1, cI G u.2.2.2.2.2.2.2.2.2.2.2.2.2.2.2.1 u.2.2.2.2.2.2.2.1 u.2.2.2.2.2.2.2.2.1, cI G u.2.2.2.2.2.2.2.2.2.2.2.2.2.2.2.2.1 u.2.2.2.2.2.2.2.2.2.1 u.2.2.2.2.2.2.2.2.2.2.1, cI G u.2.2.2.2.2.2.2.2.2.2.2.2.2.2.2.2.2 u.2.2.2.2.2.2.2.2.2.2.2.1 u.2.2.2.2.2.2.2.2.2.2.2.2.1]) (va_A [cBO hBO bo_width bo_height bo_floor bo_goals bo_live bo_boxes bo_person hBS bo_liveBesideInRow bo_liveBesideInColumn, cSE hSE se_count se_length hSB hSL hSP hSU hSS se_found se_overfull, cJ G hSB sb_n aSB, cI G hSL sl_n aSL, cI G hSP sp_n aSP, cI G hSU su_n aSU, cI G hSS ss_n aSS] sz)) bc bs (va_A [cBO hBO bo_width bo_height bo_floor bo_goals bo_live bo_boxes bo_person hBS bo_liveBesideInRow bo_liveBesideInColumn, cSE hSE se_count se_length hSB hSL hSP hSU hSS se_found se_overfull, cJ G hSB sb_n aSB, cI G hSL sl_n aSL, cI G hSP sp_n aSP, cI G hSU su_n aSU, cI G hSS ss_n aSS] sz) := by
  refine Met.ofW (cc := cX4_comeTo) (maxL := 10) (ret := none) (by decide) rfl ?_
  intro p e s m args below meth c s₁ B hml hv
  obtain ⟨rfl, hsz, hP, hK, hD0⟩ := hv
  subst hsz
  have X := gX.ofB (ws := [cBO hBO bo_width bo_height bo_floor bo_goals bo_live bo_boxes bo_person hBS bo_liveBesideInRow bo_liveBesideInColumn, cSE hSE se_count se_length hSB hSL hSP hSU hSS se_found se_overfull, cJ G hSB sb_n aSB, cI G hSL sl_n aSL, cI G hSP sp_n aSP, cI G hSU su_n aSU, cI G hSS ss_n aSS]) B hml hK hD0
  have hD := hD0.self (sz := s.heap.size)
  generalize hAe : va_A [cBO hBO bo_width bo_height bo_floor bo_goals bo_live bo_boxes bo_person hBS bo_liveBesideInRow bo_liveBesideInColumn, cSE hSE se_count se_length hSB hSL hSP hSU hSS se_found se_overfull, cJ G hSB sb_n aSB, cI G hSL sl_n aSL, cI G hSP sp_n aSP, cI G hSU su_n aSU, cI G hSS ss_n aSS] s.heap.size = A at X hD ⊢
  have hS : va_S A s.heap s.heap [] := va_S.rf
  have hl := lv_entry ([.ref hSE, .ref hBO, .long v2, .long v4, .int v6, .int v7, .int v8]) (n := 10) (Nat.le_of_ble_eq_true rfl)
  rw [lg_entry_eq]
  generalize (lg_sl ([.ref hSE, .ref hBO, .long v2, .long v4, .int v6, .int v7, .int v8]) ++ List.replicate (10 - (lg_sl ([.ref hSE, .ref hBO, .long v2, .long v4, .int v6, .int v7, .int v8])).length) Slot.unset).toArray = ls at hl ⊢
  have hl : lv_has ls 10 [(0, .ref hSE), (1, .ref hBO), (2, .long v2), (4, .long v4), (6, .int v6), (7, .int v7), (8, .int v8)] := hl
  dsimp only [headSpec]
  unfold SE_comeTo at h
  refine lv_aload_n X.1 X.2.1 dX4_comeTo_0 rfl (lv_at hl 1 rfl) ?_
  refine lv_lload_n X.1 X.2.1 dX4_comeTo_1 rfl (lv_at hl 2 rfl) ?_
  refine g_ci (wr := [cSE hSE se_count se_length hSB hSL hSP hSU hSS se_found se_overfull, cJ G hSB sb_n aSB, cI G hSL sl_n aSL, cI G hSP sp_n aSP, cI G hSU su_n aSU, cI G hSS ss_n aSS]) X [0] [1, 2, 3, 4, 5, 6] (g_rV (As := [.long v2]) (rest := []) X (c_BO_isStuck l G hBO hBS bo_width bo_height bo_floor bo_goals bo_live bo_boxes bo_person bo_liveBesideInRow bo_liveBesideInColumn v2 _ h _) lk_X4_104 rfl rfl ⟨Nat.le_of_ble_eq_true rfl, Nat.le_of_ble_eq_true rfl⟩ hP hD hS [0] rfl rfl 0 0 rfl rfl rfl hl.1 rfl (Nat.le_of_ble_eq_true rfl) dX4_comeTo_2 ⟨show 0 + 0 ≤ bc by omega, show 0 + 0 ≤ bs by omega⟩) hP hD hS rfl rfl rfl (by decide) (fun r_1 u H locs h hP hD hS => ?_)
  try dsimp only at h
  replace hP := hP.sub (ws' := [cBO hBO bo_width bo_height bo_floor bo_goals bo_live bo_boxes bo_person hBS bo_liveBesideInRow bo_liveBesideInColumn, cSE hSE se_count se_length hSB hSL hSP hSU hSS se_found se_overfull, cJ G hSB sb_n aSB, cI G hSL sl_n aSL, cI G hSP sp_n aSP, cI G hSU su_n aSU, cI G hSS ss_n aSS]) [6, 0, 1, 2, 3, 4, 5] rfl
  replace hD := hD.sub (ws' := [cBO hBO bo_width bo_height bo_floor bo_goals bo_live bo_boxes bo_person hBS bo_liveBesideInRow bo_liveBesideInColumn, cSE hSE se_count se_length hSB hSL hSP hSU hSS se_found se_overfull, cJ G hSB sb_n aSB, cI G hSL sl_n aSL, cI G hSP sp_n aSP, cI G hSU su_n aSU, cI G hSS ss_n aSS]) [6, 0, 1, 2, 3, 4, 5] rfl rfl
  refine lv_if_eq (tgt := 9) X.1 X.2.1 dX4_comeTo_5 (by decide) (fun hc => ?_) (fun hc => ?_)
  · replace h := Eq.mp (if_pos hc) h
    refine lv_aload_n X.1 X.2.1 dX4_comeTo_9 rfl (lv_at hl 1 rfl) ?_
    refine lv_lload X.1 X.2.1 dX4_comeTo_10 (lv_at hl 3 rfl) ?_
    refine lv_lload_n X.1 X.2.1 dX4_comeTo_12 rfl (lv_at hl 2 rfl) ?_
    refine g_cl (wr := [cSE hSE se_count se_length hSB hSL hSP hSU hSS se_found se_overfull, cJ G hSB sb_n aSB, cI G hSL sl_n aSL, cI G hSP sp_n aSP, cI G hSU su_n aSU, cI G hSS ss_n aSS]) X [0] [1, 2, 3, 4, 5, 6] (g_rV (As := [.long v4, .long v2]) (rest := []) X (c_BO_reachOf l G hBO hBS bo_width bo_height bo_floor bo_goals bo_live bo_boxes bo_person bo_liveBesideInRow bo_liveBesideInColumn v4 v2 _ h _) lk_X4_57 rfl rfl ⟨Nat.le_of_ble_eq_true rfl, Nat.le_of_ble_eq_true rfl⟩ hP hD hS [0] rfl rfl 0 0 rfl rfl rfl hl.1 rfl (Nat.le_of_ble_eq_true rfl) dX4_comeTo_13 ⟨show 0 + 0 ≤ bc by omega, show 0 + 0 ≤ bs by omega⟩) hP hD hS rfl rfl rfl (by decide) (fun r_2 u H locs h hP hD hS => ?_)
    try dsimp only at h
    replace hP := hP.sub (ws' := [cBO hBO bo_width bo_height bo_floor bo_goals bo_live bo_boxes bo_person hBS bo_liveBesideInRow bo_liveBesideInColumn, cSE hSE se_count se_length hSB hSL hSP hSU hSS se_found se_overfull, cJ G hSB sb_n aSB, cI G hSL sl_n aSL, cI G hSP sp_n aSP, cI G hSU su_n aSU, cI G hSS ss_n aSS]) [6, 0, 1, 2, 3, 4, 5] rfl
    replace hD := hD.sub (ws' := [cBO hBO bo_width bo_height bo_floor bo_goals bo_live bo_boxes bo_person hBS bo_liveBesideInRow bo_liveBesideInColumn, cSE hSE se_count se_length hSB hSL hSP hSU hSS se_found se_overfull, cJ G hSB sb_n aSB, cI G hSL sl_n aSL, cI G hSP sp_n aSP, cI G hSU su_n aSU, cI G hSS ss_n aSS]) [6, 0, 1, 2, 3, 4, 5] rfl rfl
    refine g_ci (wr := [cBO hBO bo_width bo_height bo_floor bo_goals bo_live bo_boxes bo_person hBS bo_liveBesideInRow bo_liveBesideInColumn, cSE hSE se_count se_length hSB hSL hSP hSU hSS se_found se_overfull, cJ G hSB sb_n aSB, cI G hSL sl_n aSL, cI G hSP sp_n aSP, cI G hSU su_n aSU, cI G hSS ss_n aSS]) X [] [0, 1, 2, 3, 4, 5, 6] (g_rN (As := [.long r_2]) (rest := []) X (c_PB_spotOf l G r_2 _ h _) lk_X4_61 rfl rfl ⟨Nat.le_of_ble_eq_true rfl, Nat.le_of_ble_eq_true rfl⟩ hP hD hS [] rfl rfl rfl hl.1 rfl (Nat.le_of_ble_eq_true rfl) dX4_comeTo_16 ⟨show 0 + 0 ≤ bc by omega, show 0 + 0 ≤ bs by omega⟩) hP hD hS rfl rfl rfl (by decide) (fun r_3 u H locs h hP hD hS => ?_)
    try dsimp only at h
    replace hP := hP.sub (ws' := [cBO hBO bo_width bo_height bo_floor bo_goals bo_live bo_boxes bo_person hBS bo_liveBesideInRow bo_liveBesideInColumn, cSE hSE se_count se_length hSB hSL hSP hSU hSS se_found se_overfull, cJ G hSB sb_n aSB, cI G hSL sl_n aSL, cI G hSP sp_n aSP, cI G hSU su_n aSU, cI G hSS ss_n aSS]) [0, 1, 2, 3, 4, 5, 6] rfl
    replace hD := hD.sub (ws' := [cBO hBO bo_width bo_height bo_floor bo_goals bo_live bo_boxes bo_person hBS bo_liveBesideInRow bo_liveBesideInColumn, cSE hSE se_count se_length hSB hSL hSP hSU hSS se_found se_overfull, cJ G hSB sb_n aSB, cI G hSL sl_n aSL, cI G hSP sp_n aSP, cI G hSU su_n aSU, cI G hSS ss_n aSS]) [0, 1, 2, 3, 4, 5, 6] rfl rfl
    refine lv_istore (lv' := [(9, .int r_3), (0, .ref hSE), (1, .ref hBO), (2, .long v2), (4, .long v4), (6, .int v6), (7, .int v7), (8, .int v8)]) X.1 X.2.1 dX4_comeTo_19 hl (by decide) rfl (fun ls hl => ?_)
    refine lv_aload_n X.1 X.2.1 dX4_comeTo_21 rfl (lv_at hl 1 rfl) ?_
    refine g_get X hP 1 4 6 (v := .ref hSS) rfl rfl inX4 (by decide) fl_X4_25 rfl dX4_comeTo_22 ?_
    refine lv_aload_n X.1 X.2.1 dX4_comeTo_25 rfl (lv_at hl 1 rfl) ?_
    refine lv_lload_n X.1 X.2.1 dX4_comeTo_26 rfl (lv_at hl 3 rfl) ?_
    refine lv_iload X.1 X.2.1 dX4_comeTo_27 (lv_at hl 0 rfl) ?_
    refine g_ci (wr := [cBO hBO bo_width bo_height bo_floor bo_goals bo_live bo_boxes bo_person hBS bo_liveBesideInRow bo_liveBesideInColumn, cI G hSP sp_n aSP, cI G hSU su_n aSU]) X [1, 2, 3, 6] [0, 4, 5] (g_rV (As := [.long v2, .int r_3]) (rest := [.ref hSS]) X (c_SE_slotOf l G hSE hSB hSL hSP hSU hSS se_count se_length se_found se_overfull sb_n aSB sl_n aSL ss_n aSS v2 r_3 _ h _) lk_X4_107 rfl rfl ⟨Nat.le_of_ble_eq_true rfl, Nat.le_of_ble_eq_true rfl⟩ hP hD hS [1, 2, 3, 6] rfl rfl 1 4 rfl rfl rfl hl.1 rfl (Nat.le_of_ble_eq_true rfl) dX4_comeTo_29 ⟨show 0 + 0 ≤ bc by omega, show 0 + 0 ≤ bs by omega⟩) hP hD hS rfl rfl rfl (by decide) (fun r_4 u H locs h hP hD hS => ?_)
    try dsimp only at h
    replace hP := hP.sub (ws' := [cBO hBO bo_width bo_height bo_floor bo_goals bo_live bo_boxes bo_person hBS bo_liveBesideInRow bo_liveBesideInColumn, cSE hSE se_count se_length hSB hSL hSP hSU hSS se_found se_overfull, cJ G hSB sb_n aSB, cI G hSL sl_n aSL, cI G hSP sp_n aSP, cI G hSU su_n aSU, cI G hSS ss_n aSS]) [0, 3, 4, 5, 1, 2, 6] rfl
    replace hD := hD.sub (ws' := [cBO hBO bo_width bo_height bo_floor bo_goals bo_live bo_boxes bo_person hBS bo_liveBesideInRow bo_liveBesideInColumn, cSE hSE se_count se_length hSB hSL hSP hSU hSS se_found se_overfull, cJ G hSB sb_n aSB, cI G hSL sl_n aSL, cI G hSP sp_n aSP, cI G hSU su_n aSU, cI G hSS ss_n aSS]) [0, 3, 4, 5, 1, 2, 6] rfl rfl
    obtain ⟨hin, h⟩ := h
    refine va_iald (D := G.1) X.1 X.2.1 X.k.1 hP 6 0 rfl rfl hin dX4_comeTo_32 ?_
    refine lv_if_eq (tgt := 37) X.1 X.2.1 dX4_comeTo_33 (by decide) (fun hc => ?_) (fun hc => ?_)
    · replace h := Eq.mp (if_pos hc) h
      refine lv_aload_n X.1 X.2.1 dX4_comeTo_37 rfl (lv_at hl 1 rfl) ?_
      refine g_get X hP 1 4 0 (v := .int se_count) rfl rfl inX4 (by decide) fl_X4_34 rfl dX4_comeTo_38 ?_
      refine lv_iload X.1 X.2.1 dX4_comeTo_41 (lv_at hl 7 rfl) ?_
      refine lv_icmp_lt (tgt := 52) X.1 X.2.1 dX4_comeTo_43 (by decide) (fun hc => ?_) (fun hc => ?_)
      · replace h := Eq.mp (if_pos hc) h
        refine lv_aload_n X.1 X.2.1 dX4_comeTo_52 rfl (lv_at hl 1 rfl) ?_
        refine lv_lload_n X.1 X.2.1 dX4_comeTo_53 rfl (lv_at hl 3 rfl) ?_
        refine lv_iload X.1 X.2.1 dX4_comeTo_54 (lv_at hl 0 rfl) ?_
        refine lv_iload X.1 X.2.1 dX4_comeTo_56 (lv_at hl 5 rfl) ?_
        refine lv_iload X.1 X.2.1 dX4_comeTo_58 (lv_at hl 6 rfl) ?_
        obtain ⟨bc_16, bs_17, hb1, hb2, h⟩ := h
        refine g_cv (wr := [cBO hBO bo_width bo_height bo_floor bo_goals bo_live bo_boxes bo_person hBS bo_liveBesideInRow bo_liveBesideInColumn]) X [1, 2, 3, 4, 5, 6] [0] (g_rV (As := [.long v2, .int r_3, .int v6, .int v7]) (rest := []) X (c_SE_takeIn l G hSE hSB hSL hSP hSU hSS se_count se_length se_found se_overfull sb_n aSB sl_n aSL sp_n aSP su_n aSU ss_n aSS v2 r_3 v6 v7 bc_16 bs_17 _ h _) lk_X4_65 rfl rfl ⟨Nat.le_of_ble_eq_true rfl, Nat.le_of_ble_eq_true rfl⟩ hP hD hS [1, 2, 3, 4, 5, 6] rfl rfl 1 4 rfl rfl rfl hl.1 rfl (Nat.le_of_ble_eq_true rfl) dX4_comeTo_60 ⟨show 0 + bc_16 ≤ bc by omega, show 0 + bs_17 ≤ bs by omega⟩) hP hD hS rfl rfl rfl (by decide) (fun u H locs h hP hD hS => ?_)
        obtain ⟨se_count_5, sb_n_6, aSB_7, sl_n_8, aSL_9, sp_n_10, aSP_11, su_n_12, aSU_13, ss_n_14, aSS_15, hSB_18, hSL_19, hSP_20, hSU_21, hSS_22⟩ := u
        try dsimp only at h
        replace hP := hP.sub (ws' := [cBO hBO bo_width bo_height bo_floor bo_goals bo_live bo_boxes bo_person hBS bo_liveBesideInRow bo_liveBesideInColumn, cSE hSE se_count_5 se_length hSB_18 hSL_19 hSP_20 hSU_21 hSS_22 se_found se_overfull, cJ G hSB_18 sb_n_6 aSB_7, cI G hSL_19 sl_n_8 aSL_9, cI G hSP_20 sp_n_10 aSP_11, cI G hSU_21 su_n_12 aSU_13, cI G hSS_22 ss_n_14 aSS_15]) [0, 1, 2, 3, 4, 5, 6] rfl
        replace hD := hD.sub (ws' := [cBO hBO bo_width bo_height bo_floor bo_goals bo_live bo_boxes bo_person hBS bo_liveBesideInRow bo_liveBesideInColumn, cSE hSE se_count_5 se_length hSB_18 hSL_19 hSP_20 hSU_21 hSS_22 se_found se_overfull, cJ G hSB_18 sb_n_6 aSB_7, cI G hSL_19 sl_n_8 aSL_9, cI G hSP_20 sp_n_10 aSP_11, cI G hSU_21 su_n_12 aSU_13, cI G hSS_22 ss_n_14 aSS_15]) [0, 1, 2, 3, 4, 5, 6] rfl rfl
        refine lv_aload_n X.1 X.2.1 dX4_comeTo_63 rfl (lv_at hl 2 rfl) ?_
        refine lv_lload_n X.1 X.2.1 dX4_comeTo_64 rfl (lv_at hl 3 rfl) ?_
        refine g_ci (wr := [cSE hSE se_count_5 se_length hSB_18 hSL_19 hSP_20 hSU_21 hSS_22 se_found se_overfull, cJ G hSB_18 sb_n_6 aSB_7, cI G hSL_19 sl_n_8 aSL_9, cI G hSP_20 sp_n_10 aSP_11, cI G hSU_21 su_n_12 aSU_13, cI G hSS_22 ss_n_14 aSS_15]) X [0] [1, 2, 3, 4, 5, 6] (g_rV (As := [.long v2]) (rest := []) X (c_BO_isDone l G hBO hBS bo_width bo_height bo_floor bo_goals bo_live bo_boxes bo_person bo_liveBesideInRow bo_liveBesideInColumn v2 _ h _) lk_X4_69 rfl rfl ⟨Nat.le_of_ble_eq_true rfl, Nat.le_of_ble_eq_true rfl⟩ hP hD hS [0] rfl rfl 0 0 rfl rfl rfl hl.1 rfl (Nat.le_of_ble_eq_true rfl) dX4_comeTo_65 ⟨show (0 + bc_16) + 0 ≤ bc by omega, show (0 + bs_17) + 0 ≤ bs by omega⟩) hP hD hS rfl rfl rfl (by decide) (fun r_23 u H locs h hP hD hS => ?_)
        try dsimp only at h
        replace hP := hP.sub (ws' := [cBO hBO bo_width bo_height bo_floor bo_goals bo_live bo_boxes bo_person hBS bo_liveBesideInRow bo_liveBesideInColumn, cSE hSE se_count_5 se_length hSB_18 hSL_19 hSP_20 hSU_21 hSS_22 se_found se_overfull, cJ G hSB_18 sb_n_6 aSB_7, cI G hSL_19 sl_n_8 aSL_9, cI G hSP_20 sp_n_10 aSP_11, cI G hSU_21 su_n_12 aSU_13, cI G hSS_22 ss_n_14 aSS_15]) [6, 0, 1, 2, 3, 4, 5] rfl
        replace hD := hD.sub (ws' := [cBO hBO bo_width bo_height bo_floor bo_goals bo_live bo_boxes bo_person hBS bo_liveBesideInRow bo_liveBesideInColumn, cSE hSE se_count_5 se_length hSB_18 hSL_19 hSP_20 hSU_21 hSS_22 se_found se_overfull, cJ G hSB_18 sb_n_6 aSB_7, cI G hSL_19 sl_n_8 aSL_9, cI G hSP_20 sp_n_10 aSP_11, cI G hSU_21 su_n_12 aSU_13, cI G hSS_22 ss_n_14 aSS_15]) [6, 0, 1, 2, 3, 4, 5] rfl rfl
        refine lv_if_eq (tgt := 81) X.1 X.2.1 dX4_comeTo_68 (by decide) (fun hc => ?_) (fun hc => ?_)
        · replace h := Eq.mp (if_pos hc) h
          refine W.widen (k := bc) (n := bs) (by omega) (by omega) ?_
          exact g_vret X (se_count_5, se_found, se_overfull, sb_n_6, aSB_7, sl_n_8, aSL_9, sp_n_10, aSP_11, su_n_12, aSU_13, ss_n_14, aSS_15, hSB_18, hSL_19, hSP_20, hSU_21, hSS_22) h hP hD hS dX4_comeTo_81
        · replace h := Eq.mp (if_neg hc) h
          refine lv_aload_n X.1 X.2.1 dX4_comeTo_71 rfl (lv_at hl 1 rfl) ?_
          refine lv_aload_n X.1 X.2.1 dX4_comeTo_72 rfl (lv_at hl 1 rfl) ?_
          refine g_get X hP 1 4 0 (v := .int se_count_5) rfl rfl inX4 (by decide) fl_X4_34 rfl dX4_comeTo_73 ?_
          refine lv_iconst (v := (1 : Int32)) X.1 X.2.1 dX4_comeTo_76 (by decide) ?_
          refine lv_isub X.1 X.2.1 dX4_comeTo_77 ?_
          refine lv_topi (fun se_found_24 e_se_found_24 => ?_)
          replace h := h se_found_24 e_se_found_24
          refine g_put X hP hD hS 1 4 7 (v := .int se_found_24) rfl rfl inX4 tyX4 tyX4_ok nmX4 (by decide) fl_X4_41 rfl rfl rfl rfl (Nat.le_of_ble_eq_true rfl) dX4_comeTo_78 (fun H locs hP hD hS => ?_)
          replace hP : va_P G.1 gCl [cBO hBO bo_width bo_height bo_floor bo_goals bo_live bo_boxes bo_person hBS bo_liveBesideInRow bo_liveBesideInColumn, cSE hSE se_count_5 se_length hSB_18 hSL_19 hSP_20 hSU_21 hSS_22 se_found_24 se_overfull, cJ G hSB_18 sb_n_6 aSB_7, cI G hSL_19 sl_n_8 aSL_9, cI G hSP_20 sp_n_10 aSP_11, cI G hSU_21 su_n_12 aSU_13, cI G hSS_22 ss_n_14 aSS_15] H := hP
          replace hD : va_D A [cBO hBO bo_width bo_height bo_floor bo_goals bo_live bo_boxes bo_person hBS bo_liveBesideInRow bo_liveBesideInColumn, cSE hSE se_count_5 se_length hSB_18 hSL_19 hSP_20 hSU_21 hSS_22 se_found_24 se_overfull, cJ G hSB_18 sb_n_6 aSB_7, cI G hSL_19 sl_n_8 aSL_9, cI G hSP_20 sp_n_10 aSP_11, cI G hSU_21 su_n_12 aSU_13, cI G hSS_22 ss_n_14 aSS_15] := hD
          refine W.widen (k := bc) (n := bs) (by omega) (by omega) ?_
          exact g_vret X (se_count_5, se_found_24, se_overfull, sb_n_6, aSB_7, sl_n_8, aSL_9, sp_n_10, aSP_11, su_n_12, aSU_13, ss_n_14, aSS_15, hSB_18, hSL_19, hSP_20, hSU_21, hSS_22) h hP hD hS dX4_comeTo_81
      · replace h := Eq.mp (if_neg hc) h
        refine lv_aload_n X.1 X.2.1 dX4_comeTo_46 rfl (lv_at hl 1 rfl) ?_
        refine lv_iconst (v := (1 : Int32)) X.1 X.2.1 dX4_comeTo_47 (by decide) ?_
        refine g_put X hP hD hS 1 4 8 (v := .int (1 : Int32)) rfl rfl inX4 tyX4 tyX4_ok nmX4 (by decide) fl_X4_44 rfl rfl rfl rfl (Nat.le_of_ble_eq_true rfl) dX4_comeTo_48 (fun H locs hP hD hS => ?_)
        replace hP : va_P G.1 gCl [cBO hBO bo_width bo_height bo_floor bo_goals bo_live bo_boxes bo_person hBS bo_liveBesideInRow bo_liveBesideInColumn, cSE hSE se_count se_length hSB hSL hSP hSU hSS se_found (1 : Int32), cJ G hSB sb_n aSB, cI G hSL sl_n aSL, cI G hSP sp_n aSP, cI G hSU su_n aSU, cI G hSS ss_n aSS] H := hP
        replace hD : va_D A [cBO hBO bo_width bo_height bo_floor bo_goals bo_live bo_boxes bo_person hBS bo_liveBesideInRow bo_liveBesideInColumn, cSE hSE se_count se_length hSB hSL hSP hSU hSS se_found (1 : Int32), cJ G hSB sb_n aSB, cI G hSL sl_n aSL, cI G hSP sp_n aSP, cI G hSU su_n aSU, cI G hSS ss_n aSS] := hD
        refine W.widen (k := bc) (n := bs) (by omega) (by omega) ?_
        exact g_vret X (se_count, se_found, (1 : Int32), sb_n, aSB, sl_n, aSL, sp_n, aSP, su_n, aSU, ss_n, aSS, hSB, hSL, hSP, hSU, hSS) h hP hD hS dX4_comeTo_51
    · replace h := Eq.mp (if_neg hc) h
      refine W.widen (k := bc) (n := bs) (by omega) (by omega) ?_
      exact g_vret X (se_count, se_found, se_overfull, sb_n, aSB, sl_n, aSL, sp_n, aSP, su_n, aSU, ss_n, aSS, hSB, hSL, hSP, hSU, hSS) h hP hD hS dX4_comeTo_36
  · replace h := Eq.mp (if_neg hc) h
    refine W.widen (k := bc) (n := bs) (by omega) (by omega) ?_
    exact g_vret X (se_count, se_found, se_overfull, sb_n, aSB, sl_n, aSL, sp_n, aSP, su_n, aSU, ss_n, aSS, hSB, hSL, hSP, hSU, hSS) h hP hD hS dX4_comeTo_8
abbrev rm_SE_pushFrom (bc bs : Nat) : Room := { frames := 5, cells := bc, slots := bs, locals := 137 }
set_option maxHeartbeats 4000000 in
set_option maxRecDepth 100000 in
theorem s_SE_pushFrom_69 {p : Program} {l : Launch} {e : Env} {s : State} {m : MethodId} {args : Array Value} {below : List Frame} {meth : Method} {c : Code} {G : gEnv} {A : Nat → Prop} {mbc mbs : Nat} {hBO : Nat} {hBS : Nat} {hSE : Nat} {bo_height : Int32} {bo_boxes : Int64} {bo_person : Int64} {se_length : Int32} {bo_width : Int32} {bo_floor : Int64} {bo_goals : Int64} {bo_live : Int64} {bo_liveBesideInRow : Int64} {bo_liveBesideInColumn : Int64} {k40 : Nat → Nat → Int32 → Int32 → Int32 → Nat → (Nat → Int64) → Nat → (Nat → Int32) → Nat → (Nat → Int32) → Nat → (Nat → Int32) → Nat → (Nat → Int32) → Int32 → Int32 → Int64 → Int64 → Int64 → Int32 → Prop} {post : Int32 → Int32 → Int32 → Nat → (Nat → Int64) → Nat → (Nat → Int32) → Nat → (Nat → Int32) → Nat → (Nat → Int32) → Nat → (Nat → Int32) → Prop} (X : gX p m meth c cX4_pushFrom 16 RX4 none s args G A) (hk40 : ∀ (bc' bs' : Nat) (se_count' : Int32) (se_found' : Int32) (se_overfull' : Int32) (sb_n' : Nat) (aSB' : (Nat → Int64)) (sl_n' : Nat) (aSL' : (Nat → Int32)) (sp_n' : Nat) (aSP' : (Nat → Int32)) (su_n' : Nat) (aSU' : (Nat → Int32)) (ss_n' : Nat) (aSS' : (Nat → Int32)) (v2' : Int32) (v3' : Int32) (v4' : Int64) (v6' : Int64) (v8' : Int64) (v10' : Int32) (hSB' hSL' hSP' hSU' hSS' : Nat) (cells slots : Nat) (H : Heap) (locs : List Loc) (ls : Array Slot), k40 bc' bs' se_count' se_found' se_overfull' sb_n' aSB' sl_n' aSL' sp_n' aSP' su_n' aSU' ss_n' aSS' v2' v3' v4' v6' v8' v10' → cells + bc' ≤ mbc → slots + bs' ≤ mbs → va_P G.1 gCl [cBO hBO bo_width bo_height bo_floor bo_goals bo_live bo_boxes bo_person hBS bo_liveBesideInRow bo_liveBesideInColumn, cSE hSE se_count' se_length hSB' hSL' hSP' hSU' hSS' se_found' se_overfull', cJ G hSB' sb_n' aSB', cI G hSL' sl_n' aSL', cI G hSP' sp_n' aSP', cI G hSU' su_n' aSU', cI G hSS' ss_n' aSS'] H → va_D A [cBO hBO bo_width bo_height bo_floor bo_goals bo_live bo_boxes bo_person hBS bo_liveBesideInRow bo_liveBesideInColumn, cSE hSE se_count' se_length hSB' hSL' hSP' hSU' hSS' se_found' se_overfull', cJ G hSB' sb_n' aSB', cI G hSL' sl_n' aSL', cI G hSP' sp_n' aSP', cI G hSU' su_n' aSU', cI G hSS' ss_n' aSS'] → va_S A s.heap H locs → lv_has ls 16 [(0, .ref hSE), (1, .ref hBO), (2, .int v2'), (3, .int v3'), (4, .long v4'), (6, .long v6'), (8, .long v8'), (10, .int v10')] → W p l e (rm_SE_pushFrom mbc mbs) s m args below meth c H locs cells slots (MQ below (gQv G (fun (u : Int32 × Int32 × Int32 × Nat × (Nat → Int64) × Nat × (Nat → Int32) × Nat × (Nat → Int32) × Nat × (Nat → Int32) × Nat × (Nat → Int32) × Nat × Nat × Nat × Nat × Nat) => post u.1 u.2.1 u.2.2.1 u.2.2.2.1 u.2.2.2.2.1 u.2.2.2.2.2.1 u.2.2.2.2.2.2.1 u.2.2.2.2.2.2.2.1 u.2.2.2.2.2.2.2.2.1 u.2.2.2.2.2.2.2.2.2.1 u.2.2.2.2.2.2.2.2.2.2.1 u.2.2.2.2.2.2.2.2.2.2.2.1 u.2.2.2.2.2.2.2.2.2.2.2.2.1) (fun (u : Int32 × Int32 × Int32 × Nat × (Nat → Int64) × Nat × (Nat → Int32) × Nat × (Nat → Int32) × Nat × (Nat → Int32) × Nat × (Nat → Int32) × Nat × Nat × Nat × Nat × Nat) => [cBO hBO bo_width bo_height bo_floor bo_goals bo_live bo_boxes bo_person hBS bo_liveBesideInRow bo_liveBesideInColumn, cSE hSE u.1 se_length u.2.2.2.2.2.2.2.2.2.2.2.2.2.1 u.2.2.2.2.2.2.2.2.2.2.2.2.2.2.1 u.2.2.2.2.2.2.2.2.2.2.2.2.2.2.2.1 u.2.2.2.2.2.2.2.2.2.2.2.2.2.2.2.2.1 u.2.2.2.2.2.2.2.2.2.2.2.2.2.2.2.2.2 u.2.1 u.2.2.1, cJ G u.2.2.2.2.2.2.2.2.2.2.2.2.2.1 u.2.2.2.1 u.2.2.2.2.1, cI G u.2.2.2.2.2.2.2.2.2.2.2.2.2.2.1 u.2.2.2.2.2.1 u.2.2.2.2.2.2.1, cI G u.2.2.2.2.2.2.2.2.2.2.2.2.2.2.2.1 u.2.2.2.2.2.2.2.1 u.2.2.2.2.2.2.2.2.1, cI G u.2.2.2.2.2.2.2.2.2.2.2.2.2.2.2.2.1 u.2.2.2.2.2.2.2.2.2.1 u.2.2.2.2.2.2.2.2.2.2.1, cI G u.2.2.2.2.2.2.2.2.2.2.2.2.2.2.2.2.2 u.2.2.2.2.2.2.2.2.2.2.2.1 u.2.2.2.2.2.2.2.2.2.2.2.2.1]) A) args s mbc mbs A) (F0 m 40 ls [])) : ∀ (n : Nat) (bc bs : Nat) (se_count : Int32) (se_found : Int32) (se_overfull : Int32) (sb_n : Nat) (aSB : (Nat → Int64)) (sl_n : Nat) (aSL : (Nat → Int32)) (sp_n : Nat) (aSP : (Nat → Int32)) (su_n : Nat) (aSU : (Nat → Int32)) (ss_n : Nat) (aSS : (Nat → Int32)) (v2 : Int32) (v3 : Int32) (v4 : Int64) (v6 : Int64) (v8 : Int64) (v10 : Int32) (v11 : Int64) (v13 : Int32) (hSB hSL hSP hSU hSS : Nat) (cells slots : Nat) (H : Heap) (locs : List Loc) (ls : Array Slot), SE_pushFrom_69 bo_width bo_floor bo_goals bo_live bo_liveBesideInRow bo_liveBesideInColumn k40 post n bc bs se_count se_found se_overfull sb_n aSB sl_n aSL sp_n aSP su_n aSU ss_n aSS v2 v3 v4 v6 v8 v10 v11 v13 → cells + bc ≤ mbc → slots + bs ≤ mbs → va_P G.1 gCl [cBO hBO bo_width bo_height bo_floor bo_goals bo_live bo_boxes bo_person hBS bo_liveBesideInRow bo_liveBesideInColumn, cSE hSE se_count se_length hSB hSL hSP hSU hSS se_found se_overfull, cJ G hSB sb_n aSB, cI G hSL sl_n aSL, cI G hSP sp_n aSP, cI G hSU su_n aSU, cI G hSS ss_n aSS] H → va_D A [cBO hBO bo_width bo_height bo_floor bo_goals bo_live bo_boxes bo_person hBS bo_liveBesideInRow bo_liveBesideInColumn, cSE hSE se_count se_length hSB hSL hSP hSU hSS se_found se_overfull, cJ G hSB sb_n aSB, cI G hSL sl_n aSL, cI G hSP sp_n aSP, cI G hSU su_n aSU, cI G hSS ss_n aSS] → va_S A s.heap H locs → lv_has ls 16 [(0, .ref hSE), (1, .ref hBO), (2, .int v2), (3, .int v3), (4, .long v4), (6, .long v6), (8, .long v8), (10, .int v10), (11, .long v11), (13, .int v13)] → W p l e (rm_SE_pushFrom mbc mbs) s m args below meth c H locs cells slots (MQ below (gQv G (fun (u : Int32 × Int32 × Int32 × Nat × (Nat → Int64) × Nat × (Nat → Int32) × Nat × (Nat → Int32) × Nat × (Nat → Int32) × Nat × (Nat → Int32) × Nat × Nat × Nat × Nat × Nat) => post u.1 u.2.1 u.2.2.1 u.2.2.2.1 u.2.2.2.2.1 u.2.2.2.2.2.1 u.2.2.2.2.2.2.1 u.2.2.2.2.2.2.2.1 u.2.2.2.2.2.2.2.2.1 u.2.2.2.2.2.2.2.2.2.1 u.2.2.2.2.2.2.2.2.2.2.1 u.2.2.2.2.2.2.2.2.2.2.2.1 u.2.2.2.2.2.2.2.2.2.2.2.2.1) (fun (u : Int32 × Int32 × Int32 × Nat × (Nat → Int64) × Nat × (Nat → Int32) × Nat × (Nat → Int32) × Nat × (Nat → Int32) × Nat × (Nat → Int32) × Nat × Nat × Nat × Nat × Nat) => [cBO hBO bo_width bo_height bo_floor bo_goals bo_live bo_boxes bo_person hBS bo_liveBesideInRow bo_liveBesideInColumn, cSE hSE u.1 se_length u.2.2.2.2.2.2.2.2.2.2.2.2.2.1 u.2.2.2.2.2.2.2.2.2.2.2.2.2.2.1 u.2.2.2.2.2.2.2.2.2.2.2.2.2.2.2.1 u.2.2.2.2.2.2.2.2.2.2.2.2.2.2.2.2.1 u.2.2.2.2.2.2.2.2.2.2.2.2.2.2.2.2.2 u.2.1 u.2.2.1, cJ G u.2.2.2.2.2.2.2.2.2.2.2.2.2.1 u.2.2.2.1 u.2.2.2.2.1, cI G u.2.2.2.2.2.2.2.2.2.2.2.2.2.2.1 u.2.2.2.2.2.1 u.2.2.2.2.2.2.1, cI G u.2.2.2.2.2.2.2.2.2.2.2.2.2.2.2.1 u.2.2.2.2.2.2.2.1 u.2.2.2.2.2.2.2.2.1, cI G u.2.2.2.2.2.2.2.2.2.2.2.2.2.2.2.2.1 u.2.2.2.2.2.2.2.2.2.1 u.2.2.2.2.2.2.2.2.2.2.1, cI G u.2.2.2.2.2.2.2.2.2.2.2.2.2.2.2.2.2 u.2.2.2.2.2.2.2.2.2.2.2.1 u.2.2.2.2.2.2.2.2.2.2.2.2.1]) A) args s mbc mbs A) (F0 m 69 ls []) := by
  intro n
  induction n with
  | zero => intro bc bs se_count se_found se_overfull sb_n aSB sl_n aSL sp_n aSP su_n aSU ss_n aSS v2 v3 v4 v6 v8 v10 v11 v13 hSB hSL hSP hSU hSS cells slots H locs ls h hbc hbs hP hD hS hl; exact h.elim
  | succ n ih =>
    intro bc bs se_count se_found se_overfull sb_n aSB sl_n aSL sp_n aSP su_n aSU ss_n aSS v2 v3 v4 v6 v8 v10 v11 v13 hSB hSL hSP hSU hSS cells slots H locs ls h hbc hbs hP hD hS hl
    unfold SE_pushFrom_69 at h
    refine lv_iload X.1 X.2.1 dX4_pushFrom_69 (lv_at hl 9 rfl) ?_
    refine lv_iconst (v := (4 : Int32)) X.1 X.2.1 dX4_pushFrom_71 (by decide) ?_
    refine lv_icmp_ge (tgt := 164) X.1 X.2.1 dX4_pushFrom_72 (by decide) (fun hc => ?_) (fun hc => ?_)
    · replace h := Eq.mp (if_pos hc) h
      refine lv_iinc (v := (v10 + (1 : Int32))) (lv' := [(10, .int (v10 + (1 : Int32))), (0, .ref hSE), (1, .ref hBO), (2, .int v2), (3, .int v3), (4, .long v4), (6, .long v6), (8, .long v8), (11, .long v11), (13, .int v13)]) X.1 X.2.1 dX4_pushFrom_164 hl (k := 7) rfl rfl (by decide) rfl (fun ls hl => ?_)
      refine lv_goto (tgt := 40) X.1 X.2.1 dX4_pushFrom_167 (by decide) ?_
      exact hk40 bc bs se_count se_found se_overfull sb_n aSB sl_n aSL sp_n aSP su_n aSU ss_n aSS v2 v3 v4 v6 v8 (v10 + (1 : Int32)) hSB hSL hSP hSU hSS cells slots _ _ _ h (by omega) (by omega) hP hD hS (lv_sub hl [1, 2, 3, 4, 5, 6, 7, 0] rfl)
    · replace h := Eq.mp (if_neg hc) h
      refine lv_lload X.1 X.2.1 dX4_pushFrom_75 (lv_at hl 8 rfl) ?_
      refine lv_iload X.1 X.2.1 dX4_pushFrom_77 (lv_at hl 9 rfl) ?_
      refine g_cl (wr := [cBO hBO bo_width bo_height bo_floor bo_goals bo_live bo_boxes bo_person hBS bo_liveBesideInRow bo_liveBesideInColumn, cSE hSE se_count se_length hSB hSL hSP hSU hSS se_found se_overfull, cJ G hSB sb_n aSB, cI G hSL sl_n aSL, cI G hSP sp_n aSP, cI G hSU su_n aSU, cI G hSS ss_n aSS]) X [] [0, 1, 2, 3, 4, 5, 6] (g_rN (As := [.long v11, .int v13]) (rest := []) X (c_PB_shifted l G v11 v13 _ h _) lk_X4_90 rfl rfl ⟨Nat.le_of_ble_eq_true rfl, Nat.le_of_ble_eq_true rfl⟩ hP hD hS [] rfl rfl rfl hl.1 rfl (Nat.le_of_ble_eq_true rfl) dX4_pushFrom_79 ⟨show cells + 0 ≤ mbc by omega, show slots + 0 ≤ mbs by omega⟩) hP hD hS rfl rfl rfl (by decide) (fun r_1 u H locs h hP hD hS => ?_)
      try dsimp only at h
      replace hP := hP.sub (ws' := [cBO hBO bo_width bo_height bo_floor bo_goals bo_live bo_boxes bo_person hBS bo_liveBesideInRow bo_liveBesideInColumn, cSE hSE se_count se_length hSB hSL hSP hSU hSS se_found se_overfull, cJ G hSB sb_n aSB, cI G hSL sl_n aSL, cI G hSP sp_n aSP, cI G hSU su_n aSU, cI G hSS ss_n aSS]) [0, 1, 2, 3, 4, 5, 6] rfl
      replace hD := hD.sub (ws' := [cBO hBO bo_width bo_height bo_floor bo_goals bo_live bo_boxes bo_person hBS bo_liveBesideInRow bo_liveBesideInColumn, cSE hSE se_count se_length hSB hSL hSP hSU hSS se_found se_overfull, cJ G hSB sb_n aSB, cI G hSL sl_n aSL, cI G hSP sp_n aSP, cI G hSU su_n aSU, cI G hSS ss_n aSS]) [0, 1, 2, 3, 4, 5, 6] rfl rfl
      refine lv_lload X.1 X.2.1 dX4_pushFrom_82 (lv_at hl 6 rfl) ?_
      refine lv_land X.1 X.2.1 dX4_pushFrom_84 ?_
      refine lv_topl (fun v14_2 e_v14_2 => ?_)
      replace h := h v14_2 e_v14_2
      refine lv_lstore (lv' := [(14, .long v14_2), (0, .ref hSE), (1, .ref hBO), (2, .int v2), (3, .int v3), (4, .long v4), (6, .long v6), (8, .long v8), (10, .int v10), (11, .long v11), (13, .int v13)]) X.1 X.2.1 dX4_pushFrom_85 hl (by decide) rfl (fun ls hl => ?_)
      refine lv_lload X.1 X.2.1 dX4_pushFrom_87 (lv_at hl 0 rfl) ?_
      refine lv_lconst (v := (0 : Int64)) X.1 X.2.1 dX4_pushFrom_89 (by decide) ?_
      refine g_lcmp_eq (tgt := 158) X dX4_pushFrom_90 dX4_pushFrom_91 (by decide) (fun hc => ?_) (fun hc => ?_)
      · replace h := Eq.mp (if_pos hc) h
        refine lv_iinc (v := (v13 + (1 : Int32))) (lv' := [(13, .int (v13 + (1 : Int32))), (14, .long v14_2), (0, .ref hSE), (1, .ref hBO), (2, .int v2), (3, .int v3), (4, .long v4), (6, .long v6), (8, .long v8), (10, .int v10), (11, .long v11)]) X.1 X.2.1 dX4_pushFrom_158 hl (k := 10) rfl rfl (by decide) rfl (fun ls hl => ?_)
        refine lv_goto (tgt := 69) X.1 X.2.1 dX4_pushFrom_161 (by decide) ?_
        exact ih bc bs se_count se_found se_overfull sb_n aSB sl_n aSL sp_n aSP su_n aSU ss_n aSS v2 v3 v4 v6 v8 v10 v11 (v13 + (1 : Int32)) hSB hSL hSP hSU hSS cells slots _ _ _ h (by omega) (by omega) hP hD hS (lv_sub hl [2, 3, 4, 5, 6, 7, 8, 9, 10, 0] rfl)
      · replace h := Eq.mp (if_neg hc) h
        refine lv_lload X.1 X.2.1 dX4_pushFrom_94 (lv_at hl 9 rfl) ?_
        refine lv_iload X.1 X.2.1 dX4_pushFrom_96 (lv_at hl 10 rfl) ?_
        refine g_ci (wr := [cBO hBO bo_width bo_height bo_floor bo_goals bo_live bo_boxes bo_person hBS bo_liveBesideInRow bo_liveBesideInColumn, cSE hSE se_count se_length hSB hSL hSP hSU hSS se_found se_overfull, cJ G hSB sb_n aSB, cI G hSL sl_n aSL, cI G hSP sp_n aSP, cI G hSU su_n aSU, cI G hSS ss_n aSS]) X [] [0, 1, 2, 3, 4, 5, 6] (g_rN (As := [.int v13]) (rest := [.long v11]) X (c_PB_against l G v13 _ h _) lk_X4_94 rfl rfl ⟨Nat.le_of_ble_eq_true rfl, Nat.le_of_ble_eq_true rfl⟩ hP hD hS [] rfl rfl rfl hl.1 rfl (Nat.le_of_ble_eq_true rfl) dX4_pushFrom_98 ⟨show cells + 0 ≤ mbc by omega, show slots + 0 ≤ mbs by omega⟩) hP hD hS rfl rfl rfl (by decide) (fun r_3 u H locs h hP hD hS => ?_)
        try dsimp only at h
        replace hP := hP.sub (ws' := [cBO hBO bo_width bo_height bo_floor bo_goals bo_live bo_boxes bo_person hBS bo_liveBesideInRow bo_liveBesideInColumn, cSE hSE se_count se_length hSB hSL hSP hSU hSS se_found se_overfull, cJ G hSB sb_n aSB, cI G hSL sl_n aSL, cI G hSP sp_n aSP, cI G hSU su_n aSU, cI G hSS ss_n aSS]) [0, 1, 2, 3, 4, 5, 6] rfl
        replace hD := hD.sub (ws' := [cBO hBO bo_width bo_height bo_floor bo_goals bo_live bo_boxes bo_person hBS bo_liveBesideInRow bo_liveBesideInColumn, cSE hSE se_count se_length hSB hSL hSP hSU hSS se_found se_overfull, cJ G hSB sb_n aSB, cI G hSL sl_n aSL, cI G hSP sp_n aSP, cI G hSU su_n aSU, cI G hSS ss_n aSS]) [0, 1, 2, 3, 4, 5, 6] rfl rfl
        refine g_cl (wr := [cBO hBO bo_width bo_height bo_floor bo_goals bo_live bo_boxes bo_person hBS bo_liveBesideInRow bo_liveBesideInColumn, cSE hSE se_count se_length hSB hSL hSP hSU hSS se_found se_overfull, cJ G hSB sb_n aSB, cI G hSL sl_n aSL, cI G hSP sp_n aSP, cI G hSU su_n aSU, cI G hSS ss_n aSS]) X [] [0, 1, 2, 3, 4, 5, 6] (g_rN (As := [.long v11, .int r_3]) (rest := []) X (c_PB_shifted l G v11 r_3 _ h _) lk_X4_90 rfl rfl ⟨Nat.le_of_ble_eq_true rfl, Nat.le_of_ble_eq_true rfl⟩ hP hD hS [] rfl rfl rfl hl.1 rfl (Nat.le_of_ble_eq_true rfl) dX4_pushFrom_101 ⟨show cells + 0 ≤ mbc by omega, show slots + 0 ≤ mbs by omega⟩) hP hD hS rfl rfl rfl (by decide) (fun r_4 u H locs h hP hD hS => ?_)
        try dsimp only at h
        replace hP := hP.sub (ws' := [cBO hBO bo_width bo_height bo_floor bo_goals bo_live bo_boxes bo_person hBS bo_liveBesideInRow bo_liveBesideInColumn, cSE hSE se_count se_length hSB hSL hSP hSU hSS se_found se_overfull, cJ G hSB sb_n aSB, cI G hSL sl_n aSL, cI G hSP sp_n aSP, cI G hSU su_n aSU, cI G hSS ss_n aSS]) [0, 1, 2, 3, 4, 5, 6] rfl
        replace hD := hD.sub (ws' := [cBO hBO bo_width bo_height bo_floor bo_goals bo_live bo_boxes bo_person hBS bo_liveBesideInRow bo_liveBesideInColumn, cSE hSE se_count se_length hSB hSL hSP hSU hSS se_found se_overfull, cJ G hSB sb_n aSB, cI G hSL sl_n aSL, cI G hSP sp_n aSP, cI G hSU su_n aSU, cI G hSS ss_n aSS]) [0, 1, 2, 3, 4, 5, 6] rfl rfl
        refine lv_lload X.1 X.2.1 dX4_pushFrom_104 (lv_at hl 6 rfl) ?_
        refine lv_land X.1 X.2.1 dX4_pushFrom_106 ?_
        refine lv_lconst (v := (0 : Int64)) X.1 X.2.1 dX4_pushFrom_107 (by decide) ?_
        refine g_lcmp_ne (tgt := 115) X dX4_pushFrom_108 dX4_pushFrom_109 (by decide) (fun hc => ?_) (fun hc => ?_)
        · replace h := Eq.mp (if_neg hc) h
          refine lv_aload_n X.1 X.2.1 dX4_pushFrom_115 rfl (lv_at hl 1 rfl) ?_
          refine lv_aload_n X.1 X.2.1 dX4_pushFrom_116 rfl (lv_at hl 2 rfl) ?_
          refine lv_lload X.1 X.2.1 dX4_pushFrom_117 (lv_at hl 5 rfl) ?_
          refine lv_lload X.1 X.2.1 dX4_pushFrom_119 (lv_at hl 9 rfl) ?_
          refine lv_lxor X.1 X.2.1 dX4_pushFrom_121 ?_
          refine lv_lload X.1 X.2.1 dX4_pushFrom_122 (lv_at hl 0 rfl) ?_
          refine lv_lxor X.1 X.2.1 dX4_pushFrom_124 ?_
          refine lv_lload X.1 X.2.1 dX4_pushFrom_125 (lv_at hl 9 rfl) ?_
          refine lv_iload_n X.1 X.2.1 dX4_pushFrom_127 rfl (lv_at hl 3 rfl) ?_
          refine lv_iconst (v := (4 : Int32)) X.1 X.2.1 dX4_pushFrom_128 (by decide) ?_
          refine lv_aload_n X.1 X.2.1 dX4_pushFrom_129 rfl (lv_at hl 2 rfl) ?_
          refine lv_lload X.1 X.2.1 dX4_pushFrom_130 (lv_at hl 9 rfl) ?_
          refine g_ci (wr := [cSE hSE se_count se_length hSB hSL hSP hSU hSS se_found se_overfull, cJ G hSB sb_n aSB, cI G hSL sl_n aSL, cI G hSP sp_n aSP, cI G hSU su_n aSU, cI G hSS ss_n aSS]) X [0] [1, 2, 3, 4, 5, 6] (g_rV (As := [.long v11]) (rest := [.int (4 : Int32), .int v2, .long v11, .long ((v4 ^^^ v11) ^^^ v14_2), .ref hBO, .ref hSE]) X (c_BO_cellOf l G hBO hBS bo_width bo_height bo_floor bo_goals bo_live bo_boxes bo_person bo_liveBesideInRow bo_liveBesideInColumn v11 _ h _) lk_X4_97 rfl rfl ⟨Nat.le_of_ble_eq_true rfl, Nat.le_of_ble_eq_true rfl⟩ hP hD hS [0] rfl rfl 0 0 rfl rfl rfl hl.1 rfl (Nat.le_of_ble_eq_true rfl) dX4_pushFrom_132 ⟨show cells + 0 ≤ mbc by omega, show slots + 0 ≤ mbs by omega⟩) hP hD hS rfl rfl rfl (by decide) (fun r_5 u H locs h hP hD hS => ?_)
          try dsimp only at h
          replace hP := hP.sub (ws' := [cBO hBO bo_width bo_height bo_floor bo_goals bo_live bo_boxes bo_person hBS bo_liveBesideInRow bo_liveBesideInColumn, cSE hSE se_count se_length hSB hSL hSP hSU hSS se_found se_overfull, cJ G hSB sb_n aSB, cI G hSL sl_n aSL, cI G hSP sp_n aSP, cI G hSU su_n aSU, cI G hSS ss_n aSS]) [6, 0, 1, 2, 3, 4, 5] rfl
          replace hD := hD.sub (ws' := [cBO hBO bo_width bo_height bo_floor bo_goals bo_live bo_boxes bo_person hBS bo_liveBesideInRow bo_liveBesideInColumn, cSE hSE se_count se_length hSB hSL hSP hSU hSS se_found se_overfull, cJ G hSB sb_n aSB, cI G hSL sl_n aSL, cI G hSP sp_n aSP, cI G hSU su_n aSU, cI G hSS ss_n aSS]) [6, 0, 1, 2, 3, 4, 5] rfl rfl
          refine lv_imul X.1 X.2.1 dX4_pushFrom_135 ?_
          refine lv_iload X.1 X.2.1 dX4_pushFrom_136 (lv_at hl 10 rfl) ?_
          refine lv_iadd X.1 X.2.1 dX4_pushFrom_138 ?_
          refine lv_iload_n X.1 X.2.1 dX4_pushFrom_139 rfl (lv_at hl 4 rfl) ?_
          obtain ⟨bc_19, bs_20, hb1, hb2, h⟩ := h
          refine g_cv (wr := []) X [0, 1, 2, 3, 4, 5, 6] [] (g_rV (As := [.ref hBO, .long ((v4 ^^^ v11) ^^^ v14_2), .long v11, .int v2, .int (((4 : Int32) * r_5) + v13), .int v3]) (rest := []) X (c_SE_comeTo l G hBO hBS hSE hSB hSL hSP hSU hSS bo_width bo_height bo_floor bo_goals bo_live bo_boxes bo_person bo_liveBesideInRow bo_liveBesideInColumn se_count se_length se_found se_overfull sb_n aSB sl_n aSL sp_n aSP su_n aSU ss_n aSS ((v4 ^^^ v11) ^^^ v14_2) v11 v2 (((4 : Int32) * r_5) + v13) v3 bc_19 bs_20 _ h _) lk_X4_100 rfl rfl ⟨Nat.le_of_ble_eq_true rfl, Nat.le_of_ble_eq_true rfl⟩ hP hD hS [0, 1, 2, 3, 4, 5, 6] rfl rfl 1 4 rfl rfl rfl hl.1 rfl (Nat.le_of_ble_eq_true rfl) dX4_pushFrom_140 ⟨show cells + bc_19 ≤ mbc by omega, show slots + bs_20 ≤ mbs by omega⟩) hP hD hS rfl rfl rfl (by decide) (fun u H locs h hP hD hS => ?_)
          obtain ⟨se_count_6, se_found_7, se_overfull_8, sb_n_9, aSB_10, sl_n_11, aSL_12, sp_n_13, aSP_14, su_n_15, aSU_16, ss_n_17, aSS_18, hSB_21, hSL_22, hSP_23, hSU_24, hSS_25⟩ := u
          try dsimp only at h
          replace hP := hP.sub (ws' := [cBO hBO bo_width bo_height bo_floor bo_goals bo_live bo_boxes bo_person hBS bo_liveBesideInRow bo_liveBesideInColumn, cSE hSE se_count_6 se_length hSB_21 hSL_22 hSP_23 hSU_24 hSS_25 se_found_7 se_overfull_8, cJ G hSB_21 sb_n_9 aSB_10, cI G hSL_22 sl_n_11 aSL_12, cI G hSP_23 sp_n_13 aSP_14, cI G hSU_24 su_n_15 aSU_16, cI G hSS_25 ss_n_17 aSS_18]) [0, 1, 2, 3, 4, 5, 6] rfl
          replace hD := hD.sub (ws' := [cBO hBO bo_width bo_height bo_floor bo_goals bo_live bo_boxes bo_person hBS bo_liveBesideInRow bo_liveBesideInColumn, cSE hSE se_count_6 se_length hSB_21 hSL_22 hSP_23 hSU_24 hSS_25 se_found_7 se_overfull_8, cJ G hSB_21 sb_n_9 aSB_10, cI G hSL_22 sl_n_11 aSL_12, cI G hSP_23 sp_n_13 aSP_14, cI G hSU_24 su_n_15 aSU_16, cI G hSS_25 ss_n_17 aSS_18]) [0, 1, 2, 3, 4, 5, 6] rfl rfl
          refine lv_aload_n X.1 X.2.1 dX4_pushFrom_143 rfl (lv_at hl 1 rfl) ?_
          refine g_get X hP 1 4 7 (v := .int se_found_7) rfl rfl inX4 (by decide) fl_X4_41 rfl dX4_pushFrom_144 ?_
          refine lv_if_ge (tgt := 157) X.1 X.2.1 dX4_pushFrom_147 (by decide) (fun hc => ?_) (fun hc => ?_)
          · replace h := Eq.mp (if_pos hc) h
            refine W.widen (k := mbc) (n := mbs) (by omega) (by omega) ?_
            exact g_vret X (se_count_6, se_found_7, se_overfull_8, sb_n_9, aSB_10, sl_n_11, aSL_12, sp_n_13, aSP_14, su_n_15, aSU_16, ss_n_17, aSS_18, hSB_21, hSL_22, hSP_23, hSU_24, hSS_25) h hP hD hS dX4_pushFrom_157
          · replace h := Eq.mp (if_neg hc) h
            refine lv_aload_n X.1 X.2.1 dX4_pushFrom_150 rfl (lv_at hl 1 rfl) ?_
            refine g_get X hP 1 4 8 (v := .int se_overfull_8) rfl rfl inX4 (by decide) fl_X4_44 rfl dX4_pushFrom_151 ?_
            refine lv_if_eq (tgt := 158) X.1 X.2.1 dX4_pushFrom_154 (by decide) (fun hc => ?_) (fun hc => ?_)
            · replace h := Eq.mp (if_pos hc) h
              refine lv_iinc (v := (v13 + (1 : Int32))) (lv' := [(13, .int (v13 + (1 : Int32))), (14, .long v14_2), (0, .ref hSE), (1, .ref hBO), (2, .int v2), (3, .int v3), (4, .long v4), (6, .long v6), (8, .long v8), (10, .int v10), (11, .long v11)]) X.1 X.2.1 dX4_pushFrom_158 hl (k := 10) rfl rfl (by decide) rfl (fun ls hl => ?_)
              refine lv_goto (tgt := 69) X.1 X.2.1 dX4_pushFrom_161 (by decide) ?_
              exact ih (bc - bc_19) (bs - bs_20) se_count_6 se_found_7 se_overfull_8 sb_n_9 aSB_10 sl_n_11 aSL_12 sp_n_13 aSP_14 su_n_15 aSU_16 ss_n_17 aSS_18 v2 v3 v4 v6 v8 v10 v11 (v13 + (1 : Int32)) hSB_21 hSL_22 hSP_23 hSU_24 hSS_25 (cells + bc_19) (slots + bs_20) _ _ _ h (by omega) (by omega) hP hD hS (lv_sub hl [2, 3, 4, 5, 6, 7, 8, 9, 10, 0] rfl)
            · replace h := Eq.mp (if_neg hc) h
              refine W.widen (k := mbc) (n := mbs) (by omega) (by omega) ?_
              exact g_vret X (se_count_6, se_found_7, se_overfull_8, sb_n_9, aSB_10, sl_n_11, aSL_12, sp_n_13, aSP_14, su_n_15, aSU_16, ss_n_17, aSS_18, hSB_21, hSL_22, hSP_23, hSU_24, hSS_25) h hP hD hS dX4_pushFrom_157
        · replace h := Eq.mp (if_pos hc) h
          refine lv_goto (tgt := 158) X.1 X.2.1 dX4_pushFrom_112 (by decide) ?_
          refine lv_iinc (v := (v13 + (1 : Int32))) (lv' := [(13, .int (v13 + (1 : Int32))), (14, .long v14_2), (0, .ref hSE), (1, .ref hBO), (2, .int v2), (3, .int v3), (4, .long v4), (6, .long v6), (8, .long v8), (10, .int v10), (11, .long v11)]) X.1 X.2.1 dX4_pushFrom_158 hl (k := 10) rfl rfl (by decide) rfl (fun ls hl => ?_)
          refine lv_goto (tgt := 69) X.1 X.2.1 dX4_pushFrom_161 (by decide) ?_
          exact ih bc bs se_count se_found se_overfull sb_n aSB sl_n aSL sp_n aSP su_n aSU ss_n aSS v2 v3 v4 v6 v8 v10 v11 (v13 + (1 : Int32)) hSB hSL hSP hSU hSS cells slots _ _ _ h (by omega) (by omega) hP hD hS (lv_sub hl [2, 3, 4, 5, 6, 7, 8, 9, 10, 0] rfl)
set_option maxHeartbeats 4000000 in
set_option maxRecDepth 100000 in
theorem s_SE_pushFrom_40 {p : Program} {l : Launch} {e : Env} {s : State} {m : MethodId} {args : Array Value} {below : List Frame} {meth : Method} {c : Code} {G : gEnv} {A : Nat → Prop} {mbc mbs : Nat} {hBO : Nat} {hBS : Nat} {hSE : Nat} {bo_height : Int32} {bo_boxes : Int64} {bo_person : Int64} {se_length : Int32} {bo_width : Int32} {bo_floor : Int64} {bo_goals : Int64} {bo_live : Int64} {bo_liveBesideInRow : Int64} {bo_liveBesideInColumn : Int64} {post : Int32 → Int32 → Int32 → Nat → (Nat → Int64) → Nat → (Nat → Int32) → Nat → (Nat → Int32) → Nat → (Nat → Int32) → Nat → (Nat → Int32) → Prop} (X : gX p m meth c cX4_pushFrom 16 RX4 none s args G A)  : ∀ (n : Nat) (bc bs : Nat) (se_count : Int32) (se_found : Int32) (se_overfull : Int32) (sb_n : Nat) (aSB : (Nat → Int64)) (sl_n : Nat) (aSL : (Nat → Int32)) (sp_n : Nat) (aSP : (Nat → Int32)) (su_n : Nat) (aSU : (Nat → Int32)) (ss_n : Nat) (aSS : (Nat → Int32)) (v2 : Int32) (v3 : Int32) (v4 : Int64) (v6 : Int64) (v8 : Int64) (v10 : Int32) (hSB hSL hSP hSU hSS : Nat) (cells slots : Nat) (H : Heap) (locs : List Loc) (ls : Array Slot), SE_pushFrom_40 bo_width bo_floor bo_goals bo_live bo_liveBesideInRow bo_liveBesideInColumn post n bc bs se_count se_found se_overfull sb_n aSB sl_n aSL sp_n aSP su_n aSU ss_n aSS v2 v3 v4 v6 v8 v10 → cells + bc ≤ mbc → slots + bs ≤ mbs → va_P G.1 gCl [cBO hBO bo_width bo_height bo_floor bo_goals bo_live bo_boxes bo_person hBS bo_liveBesideInRow bo_liveBesideInColumn, cSE hSE se_count se_length hSB hSL hSP hSU hSS se_found se_overfull, cJ G hSB sb_n aSB, cI G hSL sl_n aSL, cI G hSP sp_n aSP, cI G hSU su_n aSU, cI G hSS ss_n aSS] H → va_D A [cBO hBO bo_width bo_height bo_floor bo_goals bo_live bo_boxes bo_person hBS bo_liveBesideInRow bo_liveBesideInColumn, cSE hSE se_count se_length hSB hSL hSP hSU hSS se_found se_overfull, cJ G hSB sb_n aSB, cI G hSL sl_n aSL, cI G hSP sp_n aSP, cI G hSU su_n aSU, cI G hSS ss_n aSS] → va_S A s.heap H locs → lv_has ls 16 [(0, .ref hSE), (1, .ref hBO), (2, .int v2), (3, .int v3), (4, .long v4), (6, .long v6), (8, .long v8), (10, .int v10)] → W p l e (rm_SE_pushFrom mbc mbs) s m args below meth c H locs cells slots (MQ below (gQv G (fun (u : Int32 × Int32 × Int32 × Nat × (Nat → Int64) × Nat × (Nat → Int32) × Nat × (Nat → Int32) × Nat × (Nat → Int32) × Nat × (Nat → Int32) × Nat × Nat × Nat × Nat × Nat) => post u.1 u.2.1 u.2.2.1 u.2.2.2.1 u.2.2.2.2.1 u.2.2.2.2.2.1 u.2.2.2.2.2.2.1 u.2.2.2.2.2.2.2.1 u.2.2.2.2.2.2.2.2.1 u.2.2.2.2.2.2.2.2.2.1 u.2.2.2.2.2.2.2.2.2.2.1 u.2.2.2.2.2.2.2.2.2.2.2.1 u.2.2.2.2.2.2.2.2.2.2.2.2.1) (fun (u : Int32 × Int32 × Int32 × Nat × (Nat → Int64) × Nat × (Nat → Int32) × Nat × (Nat → Int32) × Nat × (Nat → Int32) × Nat × (Nat → Int32) × Nat × Nat × Nat × Nat × Nat) => [cBO hBO bo_width bo_height bo_floor bo_goals bo_live bo_boxes bo_person hBS bo_liveBesideInRow bo_liveBesideInColumn, cSE hSE u.1 se_length u.2.2.2.2.2.2.2.2.2.2.2.2.2.1 u.2.2.2.2.2.2.2.2.2.2.2.2.2.2.1 u.2.2.2.2.2.2.2.2.2.2.2.2.2.2.2.1 u.2.2.2.2.2.2.2.2.2.2.2.2.2.2.2.2.1 u.2.2.2.2.2.2.2.2.2.2.2.2.2.2.2.2.2 u.2.1 u.2.2.1, cJ G u.2.2.2.2.2.2.2.2.2.2.2.2.2.1 u.2.2.2.1 u.2.2.2.2.1, cI G u.2.2.2.2.2.2.2.2.2.2.2.2.2.2.1 u.2.2.2.2.2.1 u.2.2.2.2.2.2.1, cI G u.2.2.2.2.2.2.2.2.2.2.2.2.2.2.2.1 u.2.2.2.2.2.2.2.1 u.2.2.2.2.2.2.2.2.1, cI G u.2.2.2.2.2.2.2.2.2.2.2.2.2.2.2.2.1 u.2.2.2.2.2.2.2.2.2.1 u.2.2.2.2.2.2.2.2.2.2.1, cI G u.2.2.2.2.2.2.2.2.2.2.2.2.2.2.2.2.2 u.2.2.2.2.2.2.2.2.2.2.2.1 u.2.2.2.2.2.2.2.2.2.2.2.2.1]) A) args s mbc mbs A) (F0 m 40 ls []) := by
  intro n
  induction n with
  | zero => intro bc bs se_count se_found se_overfull sb_n aSB sl_n aSL sp_n aSP su_n aSU ss_n aSS v2 v3 v4 v6 v8 v10 hSB hSL hSP hSU hSS cells slots H locs ls h hbc hbs hP hD hS hl; exact h.elim
  | succ n ih =>
    intro bc bs se_count se_found se_overfull sb_n aSB sl_n aSL sp_n aSP su_n aSU ss_n aSS v2 v3 v4 v6 v8 v10 hSB hSL hSP hSU hSS cells slots H locs ls h hbc hbs hP hD hS hl
    unfold SE_pushFrom_40 at h
    refine lv_iload X.1 X.2.1 dX4_pushFrom_40 (lv_at hl 7 rfl) ?_
    refine lv_bipush (v := (64 : Int32)) X.1 X.2.1 dX4_pushFrom_42 (by decide) ?_
    refine lv_icmp_ge (tgt := 170) X.1 X.2.1 dX4_pushFrom_44 (by decide) (fun hc => ?_) (fun hc => ?_)
    · replace h := Eq.mp (if_pos hc) h
      refine W.widen (k := mbc) (n := mbs) (by omega) (by omega) ?_
      exact g_vret X (se_count, se_found, se_overfull, sb_n, aSB, sl_n, aSL, sp_n, aSP, su_n, aSU, ss_n, aSS, hSB, hSL, hSP, hSU, hSS) h hP hD hS dX4_pushFrom_170
    · replace h := Eq.mp (if_neg hc) h
      refine lv_lload X.1 X.2.1 dX4_pushFrom_47 (lv_at hl 4 rfl) ?_
      refine lv_iload X.1 X.2.1 dX4_pushFrom_49 (lv_at hl 7 rfl) ?_
      refine g_ci (wr := [cBO hBO bo_width bo_height bo_floor bo_goals bo_live bo_boxes bo_person hBS bo_liveBesideInRow bo_liveBesideInColumn, cSE hSE se_count se_length hSB hSL hSP hSU hSS se_found se_overfull, cJ G hSB sb_n aSB, cI G hSL sl_n aSL, cI G hSP sp_n aSP, cI G hSU su_n aSU, cI G hSS ss_n aSS]) X [] [0, 1, 2, 3, 4, 5, 6] (g_rN (As := [.long v4, .int v10]) (rest := []) X (c_PB_has l G v4 v10 _ h _) lk_X4_86 rfl rfl ⟨Nat.le_of_ble_eq_true rfl, Nat.le_of_ble_eq_true rfl⟩ hP hD hS [] rfl rfl rfl hl.1 rfl (Nat.le_of_ble_eq_true rfl) dX4_pushFrom_51 ⟨show cells + 0 ≤ mbc by omega, show slots + 0 ≤ mbs by omega⟩) hP hD hS rfl rfl rfl (by decide) (fun r_1 u H locs h hP hD hS => ?_)
      try dsimp only at h
      replace hP := hP.sub (ws' := [cBO hBO bo_width bo_height bo_floor bo_goals bo_live bo_boxes bo_person hBS bo_liveBesideInRow bo_liveBesideInColumn, cSE hSE se_count se_length hSB hSL hSP hSU hSS se_found se_overfull, cJ G hSB sb_n aSB, cI G hSL sl_n aSL, cI G hSP sp_n aSP, cI G hSU su_n aSU, cI G hSS ss_n aSS]) [0, 1, 2, 3, 4, 5, 6] rfl
      replace hD := hD.sub (ws' := [cBO hBO bo_width bo_height bo_floor bo_goals bo_live bo_boxes bo_person hBS bo_liveBesideInRow bo_liveBesideInColumn, cSE hSE se_count se_length hSB hSL hSP hSU hSS se_found se_overfull, cJ G hSB sb_n aSB, cI G hSL sl_n aSL, cI G hSP sp_n aSP, cI G hSU su_n aSU, cI G hSS ss_n aSS]) [0, 1, 2, 3, 4, 5, 6] rfl rfl
      refine lv_if_ne (tgt := 60) X.1 X.2.1 dX4_pushFrom_54 (by decide) (fun hc => ?_) (fun hc => ?_)
      · replace h := Eq.mp (if_neg hc) h
        refine lv_lconst (v := (1 : Int64)) X.1 X.2.1 dX4_pushFrom_60 (by decide) ?_
        refine lv_iload X.1 X.2.1 dX4_pushFrom_61 (lv_at hl 7 rfl) ?_
        refine lv_lshl X.1 X.2.1 dX4_pushFrom_63 rfl ?_
        refine lv_topl (fun v11_2 e_v11_2 => ?_)
        replace h := h v11_2 e_v11_2
        refine lv_lstore (lv' := [(11, .long v11_2), (0, .ref hSE), (1, .ref hBO), (2, .int v2), (3, .int v3), (4, .long v4), (6, .long v6), (8, .long v8), (10, .int v10)]) X.1 X.2.1 dX4_pushFrom_64 hl (by decide) rfl (fun ls hl => ?_)
        refine lv_iconst (v := (0 : Int32)) X.1 X.2.1 dX4_pushFrom_66 (by decide) ?_
        refine lv_istore (lv' := [(13, .int (0 : Int32)), (11, .long v11_2), (0, .ref hSE), (1, .ref hBO), (2, .int v2), (3, .int v3), (4, .long v4), (6, .long v6), (8, .long v8), (10, .int v10)]) X.1 X.2.1 dX4_pushFrom_67 hl (by decide) rfl (fun ls hl => ?_)
        obtain ⟨n', h⟩ := h
        exact s_SE_pushFrom_69 X (fun bc' bs' se_count' se_found' se_overfull' sb_n' aSB' sl_n' aSL' sp_n' aSP' su_n' aSU' ss_n' aSS' v2' v3' v4' v6' v8' v10' hSB' hSL' hSP' hSU' hSS' cells' slots' H' locs' ls' h' hb1' hb2' hP' hD' hS' hl' => ih bc' bs' se_count' se_found' se_overfull' sb_n' aSB' sl_n' aSL' sp_n' aSP' su_n' aSU' ss_n' aSS' v2' v3' v4' v6' v8' v10' hSB' hSL' hSP' hSU' hSS' cells' slots' H' locs' ls' h' hb1' hb2' hP' hD' hS' hl') n' bc bs se_count se_found se_overfull sb_n aSB sl_n aSL sp_n aSP su_n aSU ss_n aSS v2 v3 v4 v6 v8 v10 v11_2 (0 : Int32) hSB hSL hSP hSU hSS cells slots _ _ _ h (by omega) (by omega) hP hD hS (lv_sub hl [2, 3, 4, 5, 6, 7, 8, 9, 1, 0] rfl)
      · replace h := Eq.mp (if_pos hc) h
        refine lv_goto (tgt := 164) X.1 X.2.1 dX4_pushFrom_57 (by decide) ?_
        refine lv_iinc (v := (v10 + (1 : Int32))) (lv' := [(10, .int (v10 + (1 : Int32))), (0, .ref hSE), (1, .ref hBO), (2, .int v2), (3, .int v3), (4, .long v4), (6, .long v6), (8, .long v8)]) X.1 X.2.1 dX4_pushFrom_164 hl (k := 7) rfl rfl (by decide) rfl (fun ls hl => ?_)
        refine lv_goto (tgt := 40) X.1 X.2.1 dX4_pushFrom_167 (by decide) ?_
        exact ih bc bs se_count se_found se_overfull sb_n aSB sl_n aSL sp_n aSP su_n aSU ss_n aSS v2 v3 v4 v6 v8 (v10 + (1 : Int32)) hSB hSL hSP hSU hSS cells slots _ _ _ h (by omega) (by omega) hP hD hS (lv_sub hl [1, 2, 3, 4, 5, 6, 7, 0] rfl)
set_option maxHeartbeats 4000000 in
set_option maxRecDepth 100000 in
theorem c_SE_pushFrom (l : Launch) (G : gEnv) (hBO : Nat) (hBS : Nat) (hSE : Nat) (hSB : Nat) (hSL : Nat) (hSP : Nat) (hSU : Nat) (hSS : Nat) (bo_width : Int32) (bo_height : Int32) (bo_floor : Int64) (bo_goals : Int64) (bo_live : Int64) (bo_boxes : Int64) (bo_person : Int64) (bo_liveBesideInRow : Int64) (bo_liveBesideInColumn : Int64) (se_count : Int32) (se_length : Int32) (se_found : Int32) (se_overfull : Int32) (sb_n : Nat) (aSB : Nat → Int64) (sl_n : Nat) (aSL : Nat → Int32) (sp_n : Nat) (aSP : Nat → Int32) (su_n : Nat) (aSU : Nat → Int32) (ss_n : Nat) (aSS : Nat → Int32) (v2 : Int32) (v3 : Int32) (bc bs : Nat) (post : Int32 → Int32 → Int32 → Nat → (Nat → Int64) → Nat → (Nat → Int32) → Nat → (Nat → Int32) → Nat → (Nat → Int32) → Nat → (Nat → Int32) → Prop) (h : SE_pushFrom bo_width bo_floor bo_goals bo_live bo_liveBesideInRow bo_liveBesideInColumn se_count se_found se_overfull sb_n aSB sl_n aSL sp_n aSP su_n aSU ss_n aSS v2 v3 bc bs post) (sz : Nat) : Met l yX4_pushFrom (Cond.code yX4_pushFrom cX4_pushFrom 16 none :: wAll) (rm_SE_pushFrom bc bs) (gPc G [.ref hSE, .ref hBO, .int v2, .int v3] [cBO hBO bo_width bo_height bo_floor bo_goals bo_live bo_boxes bo_person hBS bo_liveBesideInRow bo_liveBesideInColumn, cSE hSE se_count se_length hSB hSL hSP hSU hSS se_found se_overfull, cJ G hSB sb_n aSB, cI G hSL sl_n aSL, cI G hSP sp_n aSP, cI G hSU su_n aSU, cI G hSS ss_n aSS] sz) (gQv G (fun (u : Int32 × Int32 × Int32 × Nat × (Nat → Int64) × Nat × (Nat → Int32) × Nat × (Nat → Int32) × Nat × (Nat → Int32) × Nat × (Nat → Int32) × Nat × Nat × Nat × Nat × Nat) => post u.1 u.2.1 u.2.2.1 u.2.2.2.1 u.2.2.2.2.1 u.2.2.2.2.2.1 u.2.2.2.2.2.2.1 u.2.2.2.2.2.2.2.1 u.2.2.2.2.2.2.2.2.1 u.2.2.2.2.2.2.2.2.2.1 u.2.2.2.2.2.2.2.2.2.2.1 u.2.2.2.2.2.2.2.2.2.2.2.1 u.2.2.2.2.2.2.2.2.2.2.2.2.1) (fun (u : Int32 × Int32 × Int32 × Nat × (Nat → Int64) × Nat × (Nat → Int32) × Nat × (Nat → Int32) × Nat × (Nat → Int32) × Nat × (Nat → Int32) × Nat × Nat × Nat × Nat × Nat) => [cBO hBO bo_width bo_height bo_floor bo_goals bo_live bo_boxes bo_person hBS bo_liveBesideInRow bo_liveBesideInColumn, cSE hSE u.1 se_length u.2.2.2.2.2.2.2.2.2.2.2.2.2.1 u.2.2.2.2.2.2.2.2.2.2.2.2.2.2.1 u.2.2.2.2.2.2.2.2.2.2.2.2.2.2.2.1 u.2.2.2.2.2.2.2.2.2.2.2.2.2.2.2.2.1 u.2.2.2.2.2.2.2.2.2.2.2.2.2.2.2.2.2 u.2.1 u.2.2.1, cJ G u.2.2.2.2.2.2.2.2.2.2.2.2.2.1 u.2.2.2.1 u.2.2.2.2.1, cI G u.2.2.2.2.2.2.2.2.2.2.2.2.2.2.1 u.2.2.2.2.2.1 u.2.2.2.2.2.2.1, cI G u.2.2.2.2.2.2.2.2.2.2.2.2.2.2.2.1 u.2.2.2.2.2.2.2.1 u.2.2.2.2.2.2.2.2.1, cI G u.2.2.2.2.2.2.2.2.2.2.2.2.2.2.2.2.1 u.2.2.2.2.2.2.2.2.2.1 u.2.2.2.2.2.2.2.2.2.2.1, cI G u.2.2.2.2.2.2.2.2.2.2.2.2.2.2.2.2.2 u.2.2.2.2.2.2.2.2.2.2.2.1 u.2.2.2.2.2.2.2.2.2.2.2.2.1]) (va_A [cBO hBO bo_width bo_height bo_floor bo_goals bo_live bo_boxes bo_person hBS bo_liveBesideInRow bo_liveBesideInColumn, cSE hSE se_count se_length hSB hSL hSP hSU hSS se_found se_overfull, cJ G hSB sb_n aSB, cI G hSL sl_n aSL, cI G hSP sp_n aSP, cI G hSU su_n aSU, cI G hSS ss_n aSS] sz)) bc bs (va_A [cBO hBO bo_width bo_height bo_floor bo_goals bo_live bo_boxes bo_person hBS bo_liveBesideInRow bo_liveBesideInColumn, cSE hSE se_count se_length hSB hSL hSP hSU hSS se_found se_overfull, cJ G hSB sb_n aSB, cI G hSL sl_n aSL, cI G hSP sp_n aSP, cI G hSU su_n aSU, cI G hSS ss_n aSS] sz) := by
  refine Met.ofW (cc := cX4_pushFrom) (maxL := 16) (ret := none) (by decide) rfl ?_
  intro p e s m args below meth c s₁ B hml hv
  obtain ⟨rfl, hsz, hP, hK, hD0⟩ := hv
  subst hsz
  have X := gX.ofB (ws := [cBO hBO bo_width bo_height bo_floor bo_goals bo_live bo_boxes bo_person hBS bo_liveBesideInRow bo_liveBesideInColumn, cSE hSE se_count se_length hSB hSL hSP hSU hSS se_found se_overfull, cJ G hSB sb_n aSB, cI G hSL sl_n aSL, cI G hSP sp_n aSP, cI G hSU su_n aSU, cI G hSS ss_n aSS]) B hml hK hD0
  have hD := hD0.self (sz := s.heap.size)
  generalize hAe : va_A [cBO hBO bo_width bo_height bo_floor bo_goals bo_live bo_boxes bo_person hBS bo_liveBesideInRow bo_liveBesideInColumn, cSE hSE se_count se_length hSB hSL hSP hSU hSS se_found se_overfull, cJ G hSB sb_n aSB, cI G hSL sl_n aSL, cI G hSP sp_n aSP, cI G hSU su_n aSU, cI G hSS ss_n aSS] s.heap.size = A at X hD ⊢
  have hS : va_S A s.heap s.heap [] := va_S.rf
  have hl := lv_entry ([.ref hSE, .ref hBO, .int v2, .int v3]) (n := 16) (Nat.le_of_ble_eq_true rfl)
  rw [lg_entry_eq]
  generalize (lg_sl ([.ref hSE, .ref hBO, .int v2, .int v3]) ++ List.replicate (16 - (lg_sl ([.ref hSE, .ref hBO, .int v2, .int v3])).length) Slot.unset).toArray = ls at hl ⊢
  have hl : lv_has ls 16 [(0, .ref hSE), (1, .ref hBO), (2, .int v2), (3, .int v3)] := hl
  dsimp only [headSpec]
  unfold SE_pushFrom at h
  refine lv_aload_n X.1 X.2.1 dX4_pushFrom_0 rfl (lv_at hl 0 rfl) ?_
  refine g_get X hP 1 4 2 (v := .ref hSB) rfl rfl inX4 (by decide) fl_X4_11 rfl dX4_pushFrom_1 ?_
  refine lv_iload_n X.1 X.2.1 dX4_pushFrom_4 rfl (lv_at hl 2 rfl) ?_
  obtain ⟨hin, h⟩ := h
  refine va_lald (D := G.1) X.1 X.2.1 X.k.1 hP 2 1 rfl rfl hin dX4_pushFrom_5 ?_
  refine lv_topl (fun v4_1 e_v4_1 => ?_)
  replace h := h v4_1 e_v4_1
  refine lv_lstore (lv' := [(4, .long v4_1), (0, .ref hSE), (1, .ref hBO), (2, .int v2), (3, .int v3)]) X.1 X.2.1 dX4_pushFrom_6 hl (by decide) rfl (fun ls hl => ?_)
  refine lv_aload_n X.1 X.2.1 dX4_pushFrom_8 rfl (lv_at hl 2 rfl) ?_
  refine lv_lconst (v := (1 : Int64)) X.1 X.2.1 dX4_pushFrom_9 (by decide) ?_
  refine lv_aload_n X.1 X.2.1 dX4_pushFrom_10 rfl (lv_at hl 1 rfl) ?_
  refine g_get X hP 1 4 3 (v := .ref hSL) rfl rfl inX4 (by decide) fl_X4_15 rfl dX4_pushFrom_11 ?_
  refine lv_iload_n X.1 X.2.1 dX4_pushFrom_14 rfl (lv_at hl 3 rfl) ?_
  obtain ⟨hin, h⟩ := h
  refine va_iald (D := G.1) X.1 X.2.1 X.k.1 hP 3 0 rfl rfl hin dX4_pushFrom_15 ?_
  refine lv_lshl X.1 X.2.1 dX4_pushFrom_16 rfl ?_
  refine lv_lload X.1 X.2.1 dX4_pushFrom_17 (lv_at hl 0 rfl) ?_
  refine g_cl (wr := [cSE hSE se_count se_length hSB hSL hSP hSU hSS se_found se_overfull, cJ G hSB sb_n aSB, cI G hSL sl_n aSL, cI G hSP sp_n aSP, cI G hSU su_n aSU, cI G hSS ss_n aSS]) X [0] [1, 2, 3, 4, 5, 6] (g_rV (As := [.long ((1 : Int64) <<< ((aSL v2.toNatClampNeg).toInt64 &&& 63)), .long v4_1]) (rest := []) X (c_BO_reachOf l G hBO hBS bo_width bo_height bo_floor bo_goals bo_live bo_boxes bo_person bo_liveBesideInRow bo_liveBesideInColumn ((1 : Int64) <<< ((aSL v2.toNatClampNeg).toInt64 &&& 63)) v4_1 _ h _) lk_X4_57 rfl rfl ⟨Nat.le_of_ble_eq_true rfl, Nat.le_of_ble_eq_true rfl⟩ hP hD hS [0] rfl rfl 0 0 rfl rfl rfl hl.1 rfl (Nat.le_of_ble_eq_true rfl) dX4_pushFrom_19 ⟨show 0 + 0 ≤ bc by omega, show 0 + 0 ≤ bs by omega⟩) hP hD hS rfl rfl rfl (by decide) (fun r_2 u H locs h hP hD hS => ?_)
  try dsimp only at h
  replace hP := hP.sub (ws' := [cBO hBO bo_width bo_height bo_floor bo_goals bo_live bo_boxes bo_person hBS bo_liveBesideInRow bo_liveBesideInColumn, cSE hSE se_count se_length hSB hSL hSP hSU hSS se_found se_overfull, cJ G hSB sb_n aSB, cI G hSL sl_n aSL, cI G hSP sp_n aSP, cI G hSU su_n aSU, cI G hSS ss_n aSS]) [6, 0, 1, 2, 3, 4, 5] rfl
  replace hD := hD.sub (ws' := [cBO hBO bo_width bo_height bo_floor bo_goals bo_live bo_boxes bo_person hBS bo_liveBesideInRow bo_liveBesideInColumn, cSE hSE se_count se_length hSB hSL hSP hSU hSS se_found se_overfull, cJ G hSB sb_n aSB, cI G hSL sl_n aSL, cI G hSP sp_n aSP, cI G hSU su_n aSU, cI G hSS ss_n aSS]) [6, 0, 1, 2, 3, 4, 5] rfl rfl
  refine lv_lstore (lv' := [(6, .long r_2), (4, .long v4_1), (0, .ref hSE), (1, .ref hBO), (2, .int v2), (3, .int v3)]) X.1 X.2.1 dX4_pushFrom_22 hl (by decide) rfl (fun ls hl => ?_)
  refine lv_aload_n X.1 X.2.1 dX4_pushFrom_24 rfl (lv_at hl 3 rfl) ?_
  refine g_get X hP 0 0 4 (v := .long bo_live) rfl rfl inX0 (by decide) fl_X4_81 rfl dX4_pushFrom_25 ?_
  refine lv_lload X.1 X.2.1 dX4_pushFrom_28 (lv_at hl 1 rfl) ?_
  refine lv_ldc2 (v := (-1 : Int64)) X.1 X.2.1 X.2.2.2.1 (X.2.2.2.2.1 _ cn_X4_84) dX4_pushFrom_30 ?_
  refine lv_lxor X.1 X.2.1 dX4_pushFrom_33 ?_
  refine lv_land X.1 X.2.1 dX4_pushFrom_34 ?_
  refine lv_topl (fun v8_3 e_v8_3 => ?_)
  replace h := h v8_3 e_v8_3
  refine lv_lstore (lv' := [(8, .long v8_3), (6, .long r_2), (4, .long v4_1), (0, .ref hSE), (1, .ref hBO), (2, .int v2), (3, .int v3)]) X.1 X.2.1 dX4_pushFrom_35 hl (by decide) rfl (fun ls hl => ?_)
  refine lv_iconst (v := (0 : Int32)) X.1 X.2.1 dX4_pushFrom_37 (by decide) ?_
  refine lv_istore (lv' := [(10, .int (0 : Int32)), (8, .long v8_3), (6, .long r_2), (4, .long v4_1), (0, .ref hSE), (1, .ref hBO), (2, .int v2), (3, .int v3)]) X.1 X.2.1 dX4_pushFrom_38 hl (by decide) rfl (fun ls hl => ?_)
  obtain ⟨n', h⟩ := h
  exact s_SE_pushFrom_40 X  n' bc bs se_count se_found se_overfull sb_n aSB sl_n aSL sp_n aSP su_n aSU ss_n aSS v2 v3 v4_1 r_2 v8_3 (0 : Int32) hSB hSL hSP hSU hSS 0 0 _ _ _ h (by omega) (by omega) hP hD hS (lv_sub hl [4, 5, 6, 7, 3, 2, 1, 0] rfl)
abbrev rm_SE_pushesTo : Room := { frames := 0, cells := 0, slots := 0, locals := 0 }
set_option maxHeartbeats 4000000 in
set_option maxRecDepth 100000 in
theorem s_SE_pushesTo_7 {p : Program} {l : Launch} {e : Env} {s : State} {m : MethodId} {args : Array Value} {below : List Frame} {meth : Method} {c : Code} {G : gEnv} {A : Nat → Prop} {hSE : Nat} {hSB : Nat} {hSL : Nat} {hSP : Nat} {hSU : Nat} {hSS : Nat} {se_length : Int32} {se_found : Int32} {se_overfull : Int32} {se_count : Int32} {sp_n : Nat} {aSP : Nat → Int32} {post : Int32 → Prop} (X : gX p m meth c cX4_pushesTo 5 RX4 (some .int) s args G A)  : ∀ (n : Nat) (v2 : Int32) (v3 : Int32) (v4 : Int32) (H : Heap) (locs : List Loc) (ls : Array Slot), SE_pushesTo_7 se_count sp_n aSP post n v2 v3 v4 → va_P G.1 gCl [cSE hSE se_count se_length hSB hSL hSP hSU hSS se_found se_overfull, cI G hSP sp_n aSP] H → va_D A [cSE hSE se_count se_length hSB hSL hSP hSU hSS se_found se_overfull, cI G hSP sp_n aSP] → va_S A s.heap H locs → lv_has ls 5 [(0, .ref hSE), (2, .int v2), (3, .int v3), (4, .int v4)] → W p l e rm_SE_pushesTo s m args below meth c H locs 0 0 (MQ below (gQi G (fun (r : Int32) (u : Unit) => post r ) (fun (u : Unit) => [cSE hSE se_count se_length hSB hSL hSP hSU hSS se_found se_overfull, cI G hSP sp_n aSP]) A) args s 0 0 A) (F0 m 7 ls []) := by
  intro n
  induction n with
  | zero => intro v2 v3 v4 H locs ls h _ _ _ _; exact h.elim
  | succ n ih =>
    intro v2 v3 v4 H locs ls h hP hD hS hl
    unfold SE_pushesTo_7 at h
    refine lv_iload X.1 X.2.1 dX4_pushesTo_7 (lv_at hl 3 rfl) ?_
    refine lv_aload_n X.1 X.2.1 dX4_pushesTo_9 rfl (lv_at hl 0 rfl) ?_
    refine g_get X hP 0 4 0 (v := .int se_count) rfl rfl inX4 (by decide) fl_X4_34 rfl dX4_pushesTo_10 ?_
    refine lv_icmp_ge (tgt := 36) X.1 X.2.1 dX4_pushesTo_13 (by decide) (fun hc => ?_) (fun hc => ?_)
    · replace h := Eq.mp (if_pos hc) h
      refine lv_iload_n X.1 X.2.1 dX4_pushesTo_36 rfl (lv_at hl 1 rfl) ?_
      exact g_iret X () h hP hD hS dX4_pushesTo_37
    · replace h := Eq.mp (if_neg hc) h
      refine lv_iload_n X.1 X.2.1 dX4_pushesTo_16 rfl (lv_at hl 2 rfl) ?_
      refine lv_if_le (tgt := 36) X.1 X.2.1 dX4_pushesTo_17 (by decide) (fun hc => ?_) (fun hc => ?_)
      · replace h := Eq.mp (if_pos hc) h
        refine lv_iload_n X.1 X.2.1 dX4_pushesTo_36 rfl (lv_at hl 1 rfl) ?_
        exact g_iret X () h hP hD hS dX4_pushesTo_37
      · replace h := Eq.mp (if_neg hc) h
        refine lv_aload_n X.1 X.2.1 dX4_pushesTo_20 rfl (lv_at hl 0 rfl) ?_
        refine g_get X hP 0 4 4 (v := .ref hSP) rfl rfl inX4 (by decide) fl_X4_19 rfl dX4_pushesTo_21 ?_
        refine lv_iload_n X.1 X.2.1 dX4_pushesTo_24 rfl (lv_at hl 2 rfl) ?_
        obtain ⟨hin, h⟩ := h
        refine va_iald (D := G.1) X.1 X.2.1 X.k.1 hP 1 0 rfl rfl hin dX4_pushesTo_25 ?_
        refine lv_topi (fun v3_1 e_v3_1 => ?_)
        replace h := h v3_1 e_v3_1
        refine lv_istore_n (lv' := [(3, .int v3_1), (0, .ref hSE), (2, .int v2), (4, .int v4)]) X.1 X.2.1 dX4_pushesTo_26 rfl hl (by decide) rfl (fun ls hl => ?_)
        refine lv_iinc (v := (v2 + (1 : Int32))) (lv' := [(2, .int (v2 + (1 : Int32))), (3, .int v3_1), (0, .ref hSE), (4, .int v4)]) X.1 X.2.1 dX4_pushesTo_27 hl (k := 2) rfl rfl (by decide) rfl (fun ls hl => ?_)
        refine lv_iinc (v := (v4 + (1 : Int32))) (lv' := [(4, .int (v4 + (1 : Int32))), (2, .int (v2 + (1 : Int32))), (3, .int v3_1), (0, .ref hSE)]) X.1 X.2.1 dX4_pushesTo_30 hl (k := 3) rfl rfl (by decide) rfl (fun ls hl => ?_)
        refine lv_goto (tgt := 7) X.1 X.2.1 dX4_pushesTo_33 (by decide) ?_
        exact ih (v2 + (1 : Int32)) v3_1 (v4 + (1 : Int32)) _ _ _ h hP hD hS (lv_sub hl [3, 1, 2, 0] rfl)
set_option maxHeartbeats 4000000 in
set_option maxRecDepth 100000 in
theorem c_SE_pushesTo (l : Launch) (G : gEnv) (hSE : Nat) (hSB : Nat) (hSL : Nat) (hSP : Nat) (hSU : Nat) (hSS : Nat) (se_count : Int32) (se_length : Int32) (se_found : Int32) (se_overfull : Int32) (sp_n : Nat) (aSP : Nat → Int32) (v1 : Int32) (post : Int32 → Prop) (h : SE_pushesTo se_count sp_n aSP v1 post) (sz : Nat) : Met l yX4_pushesTo (Cond.code yX4_pushesTo cX4_pushesTo 5 (some .int) :: wAll) (rm_SE_pushesTo) (gPc G [.ref hSE, .int v1] [cSE hSE se_count se_length hSB hSL hSP hSU hSS se_found se_overfull, cI G hSP sp_n aSP] sz) (gQi G (fun (r : Int32) (u : Unit) => post r ) (fun (u : Unit) => [cSE hSE se_count se_length hSB hSL hSP hSU hSS se_found se_overfull, cI G hSP sp_n aSP]) (va_A [cSE hSE se_count se_length hSB hSL hSP hSU hSS se_found se_overfull, cI G hSP sp_n aSP] sz)) 0 0 (va_A [cSE hSE se_count se_length hSB hSL hSP hSU hSS se_found se_overfull, cI G hSP sp_n aSP] sz) := by
  refine Met.ofW (cc := cX4_pushesTo) (maxL := 5) (ret := (some .int)) (by decide) rfl ?_
  intro p e s m args below meth c s₁ B hml hv
  obtain ⟨rfl, hsz, hP, hK, hD0⟩ := hv
  subst hsz
  have X := gX.ofB (ws := [cSE hSE se_count se_length hSB hSL hSP hSU hSS se_found se_overfull, cI G hSP sp_n aSP]) B hml hK hD0
  have hD := hD0.self (sz := s.heap.size)
  generalize hAe : va_A [cSE hSE se_count se_length hSB hSL hSP hSU hSS se_found se_overfull, cI G hSP sp_n aSP] s.heap.size = A at X hD ⊢
  have hS : va_S A s.heap s.heap [] := va_S.rf
  have hl := lv_entry ([.ref hSE, .int v1]) (n := 5) (Nat.le_of_ble_eq_true rfl)
  rw [lg_entry_eq]
  generalize (lg_sl ([.ref hSE, .int v1]) ++ List.replicate (5 - (lg_sl ([.ref hSE, .int v1])).length) Slot.unset).toArray = ls at hl ⊢
  have hl : lv_has ls 5 [(0, .ref hSE), (1, .int v1)] := hl
  dsimp only [headSpec]
  unfold SE_pushesTo at h
  refine lv_iconst (v := (0 : Int32)) X.1 X.2.1 dX4_pushesTo_0 (by decide) ?_
  refine lv_istore_n (lv' := [(2, .int (0 : Int32)), (0, .ref hSE), (1, .int v1)]) X.1 X.2.1 dX4_pushesTo_1 rfl hl (by decide) rfl (fun ls hl => ?_)
  refine lv_iload_n X.1 X.2.1 dX4_pushesTo_2 rfl (lv_at hl 2 rfl) ?_
  refine lv_istore_n (lv' := [(3, .int v1), (2, .int (0 : Int32)), (0, .ref hSE), (1, .int v1)]) X.1 X.2.1 dX4_pushesTo_3 rfl hl (by decide) rfl (fun ls hl => ?_)
  refine lv_iconst (v := (0 : Int32)) X.1 X.2.1 dX4_pushesTo_4 (by decide) ?_
  refine lv_istore (lv' := [(4, .int (0 : Int32)), (3, .int v1), (2, .int (0 : Int32)), (0, .ref hSE), (1, .int v1)]) X.1 X.2.1 dX4_pushesTo_5 hl (by decide) rfl (fun ls hl => ?_)
  obtain ⟨n', h⟩ := h
  exact s_SE_pushesTo_7 X  n' (0 : Int32) v1 (0 : Int32) _ _ _ h hP hD hS (lv_sub hl [3, 2, 1, 0] rfl)
abbrev rm_SE_run (bc bs : Nat) : Room := { frames := 6, cells := bc, slots := bs, locals := 172 }
set_option maxHeartbeats 4000000 in
set_option maxRecDepth 100000 in
theorem s_SE_run_122 {p : Program} {l : Launch} {e : Env} {s : State} {m : MethodId} {args : Array Value} {below : List Frame} {meth : Method} {c : Code} {G : gEnv} {A : Nat → Prop} {mbc mbs : Nat} {hBO : Nat} {hBS : Nat} {hSE : Nat} {bo_height : Int32} {bo_width : Int32} {bo_floor : Int64} {bo_goals : Int64} {bo_live : Int64} {bo_boxes : Int64} {bo_person : Int64} {bo_liveBesideInRow : Int64} {bo_liveBesideInColumn : Int64} {post : Int32 → Int32 → Int32 → Int32 → Int32 → Nat → (Nat → Int64) → Nat → (Nat → Int32) → Nat → (Nat → Int32) → Nat → (Nat → Int32) → Nat → (Nat → Int32) → Prop} (X : gX p m meth c cX4_run 5 RX4 (some .int) s args G A)  : ∀ (bc bs : Nat) (se_count : Int32) (se_length : Int32) (se_found : Int32) (se_overfull : Int32) (sb_n : Nat) (aSB : (Nat → Int64)) (sl_n : Nat) (aSL : (Nat → Int32)) (sp_n : Nat) (aSP : (Nat → Int32)) (su_n : Nat) (aSU : (Nat → Int32)) (ss_n : Nat) (aSS : (Nat → Int32)) (hSB hSL hSP hSU hSS : Nat) (cells slots : Nat) (H : Heap) (locs : List Loc) (ls : Array Slot), SE_run_122 bo_width bo_floor bo_goals bo_live bo_boxes bo_person bo_liveBesideInRow bo_liveBesideInColumn post bc bs se_count se_length se_found se_overfull sb_n aSB sl_n aSL sp_n aSP su_n aSU ss_n aSS → cells + bc ≤ mbc → slots + bs ≤ mbs → va_P G.1 gCl [cBO hBO bo_width bo_height bo_floor bo_goals bo_live bo_boxes bo_person hBS bo_liveBesideInRow bo_liveBesideInColumn, cSE hSE se_count se_length hSB hSL hSP hSU hSS se_found se_overfull, cJ G hSB sb_n aSB, cI G hSL sl_n aSL, cI G hSP sp_n aSP, cI G hSU su_n aSU, cI G hSS ss_n aSS] H → va_D A [cBO hBO bo_width bo_height bo_floor bo_goals bo_live bo_boxes bo_person hBS bo_liveBesideInRow bo_liveBesideInColumn, cSE hSE se_count se_length hSB hSL hSP hSU hSS se_found se_overfull, cJ G hSB sb_n aSB, cI G hSL sl_n aSL, cI G hSP sp_n aSP, cI G hSU su_n aSU, cI G hSS ss_n aSS] → va_S A s.heap H locs → lv_has ls 5 [(0, .ref hSE), (1, .ref hBO)] → W p l e (rm_SE_run mbc mbs) s m args below meth c H locs cells slots (MQ below (gQi G (fun (r : Int32) (u : Int32 × Int32 × Int32 × Int32 × Nat × (Nat → Int64) × Nat × (Nat → Int32) × Nat × (Nat → Int32) × Nat × (Nat → Int32) × Nat × (Nat → Int32) × Nat × Nat × Nat × Nat × Nat) => post r u.1 u.2.1 u.2.2.1 u.2.2.2.1 u.2.2.2.2.1 u.2.2.2.2.2.1 u.2.2.2.2.2.2.1 u.2.2.2.2.2.2.2.1 u.2.2.2.2.2.2.2.2.1 u.2.2.2.2.2.2.2.2.2.1 u.2.2.2.2.2.2.2.2.2.2.1 u.2.2.2.2.2.2.2.2.2.2.2.1 u.2.2.2.2.2.2.2.2.2.2.2.2.1 u.2.2.2.2.2.2.2.2.2.2.2.2.2.1) (fun (u : Int32 × Int32 × Int32 × Int32 × Nat × (Nat → Int64) × Nat × (Nat → Int32) × Nat × (Nat → Int32) × Nat × (Nat → Int32) × Nat × (Nat → Int32) × Nat × Nat × Nat × Nat × Nat) => [cBO hBO bo_width bo_height bo_floor bo_goals bo_live bo_boxes bo_person hBS bo_liveBesideInRow bo_liveBesideInColumn, cSE hSE u.1 u.2.1 u.2.2.2.2.2.2.2.2.2.2.2.2.2.2.1 u.2.2.2.2.2.2.2.2.2.2.2.2.2.2.2.1 u.2.2.2.2.2.2.2.2.2.2.2.2.2.2.2.2.1 u.2.2.2.2.2.2.2.2.2.2.2.2.2.2.2.2.2.1 u.2.2.2.2.2.2.2.2.2.2.2.2.2.2.2.2.2.2 u.2.2.1 u.2.2.2.1, cJ G u.2.2.2.2.2.2.2.2.2.2.2.2.2.2.1 u.2.2.2.2.1 u.2.2.2.2.2.1, cI G u.2.2.2.2.2.2.2.2.2.2.2.2.2.2.2.1 u.2.2.2.2.2.2.1 u.2.2.2.2.2.2.2.1, cI G u.2.2.2.2.2.2.2.2.2.2.2.2.2.2.2.2.1 u.2.2.2.2.2.2.2.2.1 u.2.2.2.2.2.2.2.2.2.1, cI G u.2.2.2.2.2.2.2.2.2.2.2.2.2.2.2.2.2.1 u.2.2.2.2.2.2.2.2.2.2.1 u.2.2.2.2.2.2.2.2.2.2.2.1, cI G u.2.2.2.2.2.2.2.2.2.2.2.2.2.2.2.2.2.2 u.2.2.2.2.2.2.2.2.2.2.2.2.1 u.2.2.2.2.2.2.2.2.2.2.2.2.2.1]) A) args s mbc mbs A) (F0 m 122 ls []) := by
  intro bc bs se_count se_length se_found se_overfull sb_n aSB sl_n aSL sp_n aSP su_n aSU ss_n aSS hSB hSL hSP hSU hSS cells slots H locs ls h hbc hbs hP hD hS hl
  unfold SE_run_122 at h
  refine lv_aload_n X.1 X.2.1 dX4_run_122 rfl (lv_at hl 0 rfl) ?_
  refine g_get X hP 1 4 8 (v := .int se_overfull) rfl rfl inX4 (by decide) fl_X4_44 rfl dX4_run_123 ?_
  refine lv_if_eq (tgt := 132) X.1 X.2.1 dX4_run_126 (by decide) (fun hc => ?_) (fun hc => ?_)
  · replace h := Eq.mp (if_pos hc) h
    refine lv_aload_n X.1 X.2.1 dX4_run_132 rfl (lv_at hl 0 rfl) ?_
    refine lv_aload_n X.1 X.2.1 dX4_run_133 rfl (lv_at hl 0 rfl) ?_
    refine lv_aload_n X.1 X.2.1 dX4_run_134 rfl (lv_at hl 0 rfl) ?_
    refine g_get X hP 1 4 7 (v := .int se_found) rfl rfl inX4 (by decide) fl_X4_41 rfl dX4_run_135 ?_
    refine g_ci (wr := [cBO hBO bo_width bo_height bo_floor bo_goals bo_live bo_boxes bo_person hBS bo_liveBesideInRow bo_liveBesideInColumn, cJ G hSB sb_n aSB, cI G hSL sl_n aSL, cI G hSU su_n aSU, cI G hSS ss_n aSS]) X [1, 4] [0, 2, 3, 5, 6] (g_rV (As := [.int se_found]) (rest := [.ref hSE]) X (c_SE_pushesTo l G hSE hSB hSL hSP hSU hSS se_count se_length se_found se_overfull sp_n aSP se_found _ h _) lk_X4_77 rfl rfl ⟨Nat.le_of_ble_eq_true rfl, Nat.le_of_ble_eq_true rfl⟩ hP hD hS [1, 4] rfl rfl 1 4 rfl rfl rfl hl.1 rfl (Nat.le_of_ble_eq_true rfl) dX4_run_138 ⟨show cells + 0 ≤ mbc by omega, show slots + 0 ≤ mbs by omega⟩) hP hD hS rfl rfl rfl (by decide) (fun r_1 u H locs h hP hD hS => ?_)
    try dsimp only at h
    replace hP := hP.sub (ws' := [cBO hBO bo_width bo_height bo_floor bo_goals bo_live bo_boxes bo_person hBS bo_liveBesideInRow bo_liveBesideInColumn, cSE hSE se_count se_length hSB hSL hSP hSU hSS se_found se_overfull, cJ G hSB sb_n aSB, cI G hSL sl_n aSL, cI G hSP sp_n aSP, cI G hSU su_n aSU, cI G hSS ss_n aSS]) [0, 5, 1, 2, 6, 3, 4] rfl
    replace hD := hD.sub (ws' := [cBO hBO bo_width bo_height bo_floor bo_goals bo_live bo_boxes bo_person hBS bo_liveBesideInRow bo_liveBesideInColumn, cSE hSE se_count se_length hSB hSL hSP hSU hSS se_found se_overfull, cJ G hSB sb_n aSB, cI G hSL sl_n aSL, cI G hSP sp_n aSP, cI G hSU su_n aSU, cI G hSS ss_n aSS]) [0, 5, 1, 2, 6, 3, 4] rfl rfl
    refine g_put X hP hD hS 1 4 1 (v := .int r_1) rfl rfl inX4 tyX4 tyX4_ok nmX4 (by decide) fl_X4_38 rfl rfl rfl rfl (Nat.le_of_ble_eq_true rfl) dX4_run_141 (fun H locs hP hD hS => ?_)
    replace hP : va_P G.1 gCl [cBO hBO bo_width bo_height bo_floor bo_goals bo_live bo_boxes bo_person hBS bo_liveBesideInRow bo_liveBesideInColumn, cSE hSE se_count r_1 hSB hSL hSP hSU hSS se_found se_overfull, cJ G hSB sb_n aSB, cI G hSL sl_n aSL, cI G hSP sp_n aSP, cI G hSU su_n aSU, cI G hSS ss_n aSS] H := hP
    replace hD : va_D A [cBO hBO bo_width bo_height bo_floor bo_goals bo_live bo_boxes bo_person hBS bo_liveBesideInRow bo_liveBesideInColumn, cSE hSE se_count r_1 hSB hSL hSP hSU hSS se_found se_overfull, cJ G hSB sb_n aSB, cI G hSL sl_n aSL, cI G hSP sp_n aSP, cI G hSU su_n aSU, cI G hSS ss_n aSS] := hD
    refine lv_aload_n X.1 X.2.1 dX4_run_144 rfl (lv_at hl 0 rfl) ?_
    refine g_get X hP 1 4 7 (v := .int se_found) rfl rfl inX4 (by decide) fl_X4_41 rfl dX4_run_145 ?_
    refine lv_if_ge (tgt := 155) X.1 X.2.1 dX4_run_148 (by decide) (fun hc => ?_) (fun hc => ?_)
    · replace h := Eq.mp (if_pos hc) h
      refine lv_aload_n X.1 X.2.1 dX4_run_155 rfl (lv_at hl 0 rfl) ?_
      refine g_get X hP 1 4 1 (v := .int r_1) rfl rfl inX4 (by decide) fl_X4_38 rfl dX4_run_156 ?_
      refine W.widen (k := mbc) (n := mbs) (by omega) (by omega) ?_
      exact g_iret X (se_count, r_1, se_found, se_overfull, sb_n, aSB, sl_n, aSL, sp_n, aSP, su_n, aSU, ss_n, aSS, hSB, hSL, hSP, hSU, hSS) h hP hD hS dX4_run_159
    · replace h := Eq.mp (if_neg hc) h
      refine lv_iconst (v := (-1 : Int32)) X.1 X.2.1 dX4_run_151 (by decide) ?_
      refine lv_goto (tgt := 159) X.1 X.2.1 dX4_run_152 (by decide) ?_
      refine W.widen (k := mbc) (n := mbs) (by omega) (by omega) ?_
      exact g_iret X (se_count, r_1, se_found, se_overfull, sb_n, aSB, sl_n, aSL, sp_n, aSP, su_n, aSU, ss_n, aSS, hSB, hSL, hSP, hSU, hSS) h hP hD hS dX4_run_159
  · replace h := Eq.mp (if_neg hc) h
    refine lv_bipush (v := (-2 : Int32)) X.1 X.2.1 dX4_run_129 (by decide) ?_
    refine W.widen (k := mbc) (n := mbs) (by omega) (by omega) ?_
    exact g_iret X (se_count, se_length, se_found, se_overfull, sb_n, aSB, sl_n, aSL, sp_n, aSP, su_n, aSU, ss_n, aSS, hSB, hSL, hSP, hSU, hSS) h hP hD hS dX4_run_131
set_option maxHeartbeats 4000000 in
set_option maxRecDepth 100000 in
theorem s_SE_run_74 {p : Program} {l : Launch} {e : Env} {s : State} {m : MethodId} {args : Array Value} {below : List Frame} {meth : Method} {c : Code} {G : gEnv} {A : Nat → Prop} {mbc mbs : Nat} {hBO : Nat} {hBS : Nat} {hSE : Nat} {bo_height : Int32} {bo_width : Int32} {bo_floor : Int64} {bo_goals : Int64} {bo_live : Int64} {bo_boxes : Int64} {bo_person : Int64} {bo_liveBesideInRow : Int64} {bo_liveBesideInColumn : Int64} {post : Int32 → Int32 → Int32 → Int32 → Int32 → Nat → (Nat → Int64) → Nat → (Nat → Int32) → Nat → (Nat → Int32) → Nat → (Nat → Int32) → Nat → (Nat → Int32) → Prop} (X : gX p m meth c cX4_run 5 RX4 (some .int) s args G A)  : ∀ (n : Nat) (bc bs : Nat) (se_count : Int32) (se_length : Int32) (se_found : Int32) (se_overfull : Int32) (sb_n : Nat) (aSB : (Nat → Int64)) (sl_n : Nat) (aSL : (Nat → Int32)) (sp_n : Nat) (aSP : (Nat → Int32)) (su_n : Nat) (aSU : (Nat → Int32)) (ss_n : Nat) (aSS : (Nat → Int32)) (v2 : Int32) (v4 : Int32) (hSB hSL hSP hSU hSS : Nat) (cells slots : Nat) (H : Heap) (locs : List Loc) (ls : Array Slot), SE_run_74 bo_width bo_floor bo_goals bo_live bo_boxes bo_person bo_liveBesideInRow bo_liveBesideInColumn post n bc bs se_count se_length se_found se_overfull sb_n aSB sl_n aSL sp_n aSP su_n aSU ss_n aSS v2 v4 → cells + bc ≤ mbc → slots + bs ≤ mbs → va_P G.1 gCl [cBO hBO bo_width bo_height bo_floor bo_goals bo_live bo_boxes bo_person hBS bo_liveBesideInRow bo_liveBesideInColumn, cSE hSE se_count se_length hSB hSL hSP hSU hSS se_found se_overfull, cJ G hSB sb_n aSB, cI G hSL sl_n aSL, cI G hSP sp_n aSP, cI G hSU su_n aSU, cI G hSS ss_n aSS] H → va_D A [cBO hBO bo_width bo_height bo_floor bo_goals bo_live bo_boxes bo_person hBS bo_liveBesideInRow bo_liveBesideInColumn, cSE hSE se_count se_length hSB hSL hSP hSU hSS se_found se_overfull, cJ G hSB sb_n aSB, cI G hSL sl_n aSL, cI G hSP sp_n aSP, cI G hSU su_n aSU, cI G hSS ss_n aSS] → va_S A s.heap H locs → lv_has ls 5 [(0, .ref hSE), (1, .ref hBO), (2, .int v2), (4, .int v4)] → W p l e (rm_SE_run mbc mbs) s m args below meth c H locs cells slots (MQ below (gQi G (fun (r : Int32) (u : Int32 × Int32 × Int32 × Int32 × Nat × (Nat → Int64) × Nat × (Nat → Int32) × Nat × (Nat → Int32) × Nat × (Nat → Int32) × Nat × (Nat → Int32) × Nat × Nat × Nat × Nat × Nat) => post r u.1 u.2.1 u.2.2.1 u.2.2.2.1 u.2.2.2.2.1 u.2.2.2.2.2.1 u.2.2.2.2.2.2.1 u.2.2.2.2.2.2.2.1 u.2.2.2.2.2.2.2.2.1 u.2.2.2.2.2.2.2.2.2.1 u.2.2.2.2.2.2.2.2.2.2.1 u.2.2.2.2.2.2.2.2.2.2.2.1 u.2.2.2.2.2.2.2.2.2.2.2.2.1 u.2.2.2.2.2.2.2.2.2.2.2.2.2.1) (fun (u : Int32 × Int32 × Int32 × Int32 × Nat × (Nat → Int64) × Nat × (Nat → Int32) × Nat × (Nat → Int32) × Nat × (Nat → Int32) × Nat × (Nat → Int32) × Nat × Nat × Nat × Nat × Nat) => [cBO hBO bo_width bo_height bo_floor bo_goals bo_live bo_boxes bo_person hBS bo_liveBesideInRow bo_liveBesideInColumn, cSE hSE u.1 u.2.1 u.2.2.2.2.2.2.2.2.2.2.2.2.2.2.1 u.2.2.2.2.2.2.2.2.2.2.2.2.2.2.2.1 u.2.2.2.2.2.2.2.2.2.2.2.2.2.2.2.2.1 u.2.2.2.2.2.2.2.2.2.2.2.2.2.2.2.2.2.1 u.2.2.2.2.2.2.2.2.2.2.2.2.2.2.2.2.2.2 u.2.2.1 u.2.2.2.1, cJ G u.2.2.2.2.2.2.2.2.2.2.2.2.2.2.1 u.2.2.2.2.1 u.2.2.2.2.2.1, cI G u.2.2.2.2.2.2.2.2.2.2.2.2.2.2.2.1 u.2.2.2.2.2.2.1 u.2.2.2.2.2.2.2.1, cI G u.2.2.2.2.2.2.2.2.2.2.2.2.2.2.2.2.1 u.2.2.2.2.2.2.2.2.1 u.2.2.2.2.2.2.2.2.2.1, cI G u.2.2.2.2.2.2.2.2.2.2.2.2.2.2.2.2.2.1 u.2.2.2.2.2.2.2.2.2.2.1 u.2.2.2.2.2.2.2.2.2.2.2.1, cI G u.2.2.2.2.2.2.2.2.2.2.2.2.2.2.2.2.2.2 u.2.2.2.2.2.2.2.2.2.2.2.2.1 u.2.2.2.2.2.2.2.2.2.2.2.2.2.1]) A) args s mbc mbs A) (F0 m 74 ls []) := by
  intro n
  induction n with
  | zero => intro bc bs se_count se_length se_found se_overfull sb_n aSB sl_n aSL sp_n aSP su_n aSU ss_n aSS v2 v4 hSB hSL hSP hSU hSS cells slots H locs ls h hbc hbs hP hD hS hl; exact h.elim
  | succ n ih =>
    intro bc bs se_count se_length se_found se_overfull sb_n aSB sl_n aSL sp_n aSP su_n aSU ss_n aSS v2 v4 hSB hSL hSP hSU hSS cells slots H locs ls h hbc hbs hP hD hS hl
    unfold SE_run_74 at h
    refine lv_iload X.1 X.2.1 dX4_run_74 (lv_at hl 3 rfl) ?_
    refine lv_aload_n X.1 X.2.1 dX4_run_76 rfl (lv_at hl 0 rfl) ?_
    refine g_get X hP 1 4 0 (v := .int se_count) rfl rfl inX4 (by decide) fl_X4_34 rfl dX4_run_77 ?_
    refine lv_icmp_ge (tgt := 122) X.1 X.2.1 dX4_run_80 (by decide) (fun hc => ?_) (fun hc => ?_)
    · replace h := Eq.mp (if_pos hc) h
      exact s_SE_run_122 X  bc bs se_count se_length se_found se_overfull sb_n aSB sl_n aSL sp_n aSP su_n aSU ss_n aSS hSB hSL hSP hSU hSS cells slots _ _ _ h (by omega) (by omega) hP hD hS (lv_sub hl [0, 1] rfl)
    · replace h := Eq.mp (if_neg hc) h
      refine lv_iload X.1 X.2.1 dX4_run_83 (lv_at hl 3 rfl) ?_
      refine lv_sipush (v := (10000 : Int32)) X.1 X.2.1 dX4_run_85 (by decide) ?_
      refine lv_icmp_ge (tgt := 122) X.1 X.2.1 dX4_run_88 (by decide) (fun hc => ?_) (fun hc => ?_)
      · replace h := Eq.mp (if_pos hc) h
        exact s_SE_run_122 X  bc bs se_count se_length se_found se_overfull sb_n aSB sl_n aSL sp_n aSP su_n aSU ss_n aSS hSB hSL hSP hSU hSS cells slots _ _ _ h (by omega) (by omega) hP hD hS (lv_sub hl [0, 1] rfl)
      · replace h := Eq.mp (if_neg hc) h
        refine lv_aload_n X.1 X.2.1 dX4_run_91 rfl (lv_at hl 0 rfl) ?_
        refine g_get X hP 1 4 7 (v := .int se_found) rfl rfl inX4 (by decide) fl_X4_41 rfl dX4_run_92 ?_
        refine lv_if_ge (tgt := 122) X.1 X.2.1 dX4_run_95 (by decide) (fun hc => ?_) (fun hc => ?_)
        · replace h := Eq.mp (if_pos hc) h
          exact s_SE_run_122 X  bc bs se_count se_length se_found se_overfull sb_n aSB sl_n aSL sp_n aSP su_n aSU ss_n aSS hSB hSL hSP hSU hSS cells slots _ _ _ h (by omega) (by omega) hP hD hS (lv_sub hl [0, 1] rfl)
        · replace h := Eq.mp (if_neg hc) h
          refine lv_aload_n X.1 X.2.1 dX4_run_98 rfl (lv_at hl 0 rfl) ?_
          refine g_get X hP 1 4 8 (v := .int se_overfull) rfl rfl inX4 (by decide) fl_X4_44 rfl dX4_run_99 ?_
          refine lv_if_eq (tgt := 108) X.1 X.2.1 dX4_run_102 (by decide) (fun hc => ?_) (fun hc => ?_)
          · replace h := Eq.mp (if_pos hc) h
            refine lv_aload_n X.1 X.2.1 dX4_run_108 rfl (lv_at hl 0 rfl) ?_
            refine lv_aload_n X.1 X.2.1 dX4_run_109 rfl (lv_at hl 1 rfl) ?_
            refine lv_iload X.1 X.2.1 dX4_run_110 (lv_at hl 3 rfl) ?_
            refine lv_iload_n X.1 X.2.1 dX4_run_112 rfl (lv_at hl 2 rfl) ?_
            obtain ⟨bc_14, bs_15, hb1, hb2, h⟩ := h
            refine g_cv (wr := []) X [0, 1, 2, 3, 4, 5, 6] [] (g_rV (As := [.ref hBO, .int v4, .int v2]) (rest := []) X (c_SE_pushFrom l G hBO hBS hSE hSB hSL hSP hSU hSS bo_width bo_height bo_floor bo_goals bo_live bo_boxes bo_person bo_liveBesideInRow bo_liveBesideInColumn se_count se_length se_found se_overfull sb_n aSB sl_n aSL sp_n aSP su_n aSU ss_n aSS v4 v2 bc_14 bs_15 _ h _) lk_X4_73 rfl rfl ⟨Nat.le_of_ble_eq_true rfl, Nat.le_of_ble_eq_true rfl⟩ hP hD hS [0, 1, 2, 3, 4, 5, 6] rfl rfl 1 4 rfl rfl rfl hl.1 rfl (Nat.le_of_ble_eq_true rfl) dX4_run_113 ⟨show cells + bc_14 ≤ mbc by omega, show slots + bs_15 ≤ mbs by omega⟩) hP hD hS rfl rfl rfl (by decide) (fun u H locs h hP hD hS => ?_)
            obtain ⟨se_count_1, se_found_2, se_overfull_3, sb_n_4, aSB_5, sl_n_6, aSL_7, sp_n_8, aSP_9, su_n_10, aSU_11, ss_n_12, aSS_13, hSB_16, hSL_17, hSP_18, hSU_19, hSS_20⟩ := u
            try dsimp only at h
            replace hP := hP.sub (ws' := [cBO hBO bo_width bo_height bo_floor bo_goals bo_live bo_boxes bo_person hBS bo_liveBesideInRow bo_liveBesideInColumn, cSE hSE se_count_1 se_length hSB_16 hSL_17 hSP_18 hSU_19 hSS_20 se_found_2 se_overfull_3, cJ G hSB_16 sb_n_4 aSB_5, cI G hSL_17 sl_n_6 aSL_7, cI G hSP_18 sp_n_8 aSP_9, cI G hSU_19 su_n_10 aSU_11, cI G hSS_20 ss_n_12 aSS_13]) [0, 1, 2, 3, 4, 5, 6] rfl
            replace hD := hD.sub (ws' := [cBO hBO bo_width bo_height bo_floor bo_goals bo_live bo_boxes bo_person hBS bo_liveBesideInRow bo_liveBesideInColumn, cSE hSE se_count_1 se_length hSB_16 hSL_17 hSP_18 hSU_19 hSS_20 se_found_2 se_overfull_3, cJ G hSB_16 sb_n_4 aSB_5, cI G hSL_17 sl_n_6 aSL_7, cI G hSP_18 sp_n_8 aSP_9, cI G hSU_19 su_n_10 aSU_11, cI G hSS_20 ss_n_12 aSS_13]) [0, 1, 2, 3, 4, 5, 6] rfl rfl
            refine lv_iinc (v := (v4 + (1 : Int32))) (lv' := [(4, .int (v4 + (1 : Int32))), (0, .ref hSE), (1, .ref hBO), (2, .int v2)]) X.1 X.2.1 dX4_run_116 hl (k := 3) rfl rfl (by decide) rfl (fun ls hl => ?_)
            refine lv_goto (tgt := 74) X.1 X.2.1 dX4_run_119 (by decide) ?_
            exact ih (bc - bc_14) (bs - bs_15) se_count_1 se_length se_found_2 se_overfull_3 sb_n_4 aSB_5 sl_n_6 aSL_7 sp_n_8 aSP_9 su_n_10 aSU_11 ss_n_12 aSS_13 v2 (v4 + (1 : Int32)) hSB_16 hSL_17 hSP_18 hSU_19 hSS_20 (cells + bc_14) (slots + bs_15) _ _ _ h (by omega) (by omega) hP hD hS (lv_sub hl [1, 2, 3, 0] rfl)
          · replace h := Eq.mp (if_neg hc) h
            refine lv_goto (tgt := 122) X.1 X.2.1 dX4_run_105 (by decide) ?_
            exact s_SE_run_122 X  bc bs se_count se_length se_found se_overfull sb_n aSB sl_n aSL sp_n aSP su_n aSU ss_n aSS hSB hSL hSP hSU hSS cells slots _ _ _ h (by omega) (by omega) hP hD hS (lv_sub hl [0, 1] rfl)
set_option maxHeartbeats 4000000 in
set_option maxRecDepth 100000 in
theorem c_SE_run (l : Launch) (G : gEnv) (hBO : Nat) (hBS : Nat) (hSE : Nat) (hSB : Nat) (hSL : Nat) (hSP : Nat) (hSU : Nat) (hSS : Nat) (bo_width : Int32) (bo_height : Int32) (bo_floor : Int64) (bo_goals : Int64) (bo_live : Int64) (bo_boxes : Int64) (bo_person : Int64) (bo_liveBesideInRow : Int64) (bo_liveBesideInColumn : Int64) (se_count : Int32) (se_length : Int32) (se_found : Int32) (se_overfull : Int32) (sb_n : Nat) (aSB : Nat → Int64) (sl_n : Nat) (aSL : Nat → Int32) (sp_n : Nat) (aSP : Nat → Int32) (su_n : Nat) (aSU : Nat → Int32) (ss_n : Nat) (aSS : Nat → Int32) (v2 : Int32) (bc bs : Nat) (post : Int32 → Int32 → Int32 → Int32 → Int32 → Nat → (Nat → Int64) → Nat → (Nat → Int32) → Nat → (Nat → Int32) → Nat → (Nat → Int32) → Nat → (Nat → Int32) → Prop) (h : SE_run bo_width bo_floor bo_goals bo_live bo_boxes bo_person bo_liveBesideInRow bo_liveBesideInColumn se_count se_length se_found se_overfull sb_n aSB sl_n aSL sp_n aSP su_n aSU ss_n aSS v2 bc bs post) (sz : Nat) : Met l yX4_run (Cond.code yX4_run cX4_run 5 (some .int) :: wAll) (rm_SE_run bc bs) (gPc G [.ref hSE, .ref hBO, .int v2] [cBO hBO bo_width bo_height bo_floor bo_goals bo_live bo_boxes bo_person hBS bo_liveBesideInRow bo_liveBesideInColumn, cSE hSE se_count se_length hSB hSL hSP hSU hSS se_found se_overfull, cJ G hSB sb_n aSB, cI G hSL sl_n aSL, cI G hSP sp_n aSP, cI G hSU su_n aSU, cI G hSS ss_n aSS] sz) (gQi G (fun (r : Int32) (u : Int32 × Int32 × Int32 × Int32 × Nat × (Nat → Int64) × Nat × (Nat → Int32) × Nat × (Nat → Int32) × Nat × (Nat → Int32) × Nat × (Nat → Int32) × Nat × Nat × Nat × Nat × Nat) => post r u.1 u.2.1 u.2.2.1 u.2.2.2.1 u.2.2.2.2.1 u.2.2.2.2.2.1 u.2.2.2.2.2.2.1 u.2.2.2.2.2.2.2.1 u.2.2.2.2.2.2.2.2.1 u.2.2.2.2.2.2.2.2.2.1 u.2.2.2.2.2.2.2.2.2.2.1 u.2.2.2.2.2.2.2.2.2.2.2.1 u.2.2.2.2.2.2.2.2.2.2.2.2.1 u.2.2.2.2.2.2.2.2.2.2.2.2.2.1) (fun (u : Int32 × Int32 × Int32 × Int32 × Nat × (Nat → Int64) × Nat × (Nat → Int32) × Nat × (Nat → Int32) × Nat × (Nat → Int32) × Nat × (Nat → Int32) × Nat × Nat × Nat × Nat × Nat) => [cBO hBO bo_width bo_height bo_floor bo_goals bo_live bo_boxes bo_person hBS bo_liveBesideInRow bo_liveBesideInColumn, cSE hSE u.1 u.2.1 u.2.2.2.2.2.2.2.2.2.2.2.2.2.2.1 u.2.2.2.2.2.2.2.2.2.2.2.2.2.2.2.1 u.2.2.2.2.2.2.2.2.2.2.2.2.2.2.2.2.1 u.2.2.2.2.2.2.2.2.2.2.2.2.2.2.2.2.2.1 u.2.2.2.2.2.2.2.2.2.2.2.2.2.2.2.2.2.2 u.2.2.1 u.2.2.2.1, cJ G u.2.2.2.2.2.2.2.2.2.2.2.2.2.2.1 u.2.2.2.2.1 u.2.2.2.2.2.1, cI G u.2.2.2.2.2.2.2.2.2.2.2.2.2.2.2.1 u.2.2.2.2.2.2.1 u.2.2.2.2.2.2.2.1, cI G u.2.2.2.2.2.2.2.2.2.2.2.2.2.2.2.2.1 u.2.2.2.2.2.2.2.2.1 u.2.2.2.2.2.2.2.2.2.1, cI G u.2.2.2.2.2.2.2.2.2.2.2.2.2.2.2.2.2.1 u.2.2.2.2.2.2.2.2.2.2.1 u.2.2.2.2.2.2.2.2.2.2.2.1, cI G u.2.2.2.2.2.2.2.2.2.2.2.2.2.2.2.2.2.2 u.2.2.2.2.2.2.2.2.2.2.2.2.1 u.2.2.2.2.2.2.2.2.2.2.2.2.2.1]) (va_A [cBO hBO bo_width bo_height bo_floor bo_goals bo_live bo_boxes bo_person hBS bo_liveBesideInRow bo_liveBesideInColumn, cSE hSE se_count se_length hSB hSL hSP hSU hSS se_found se_overfull, cJ G hSB sb_n aSB, cI G hSL sl_n aSL, cI G hSP sp_n aSP, cI G hSU su_n aSU, cI G hSS ss_n aSS] sz)) bc bs (va_A [cBO hBO bo_width bo_height bo_floor bo_goals bo_live bo_boxes bo_person hBS bo_liveBesideInRow bo_liveBesideInColumn, cSE hSE se_count se_length hSB hSL hSP hSU hSS se_found se_overfull, cJ G hSB sb_n aSB, cI G hSL sl_n aSL, cI G hSP sp_n aSP, cI G hSU su_n aSU, cI G hSS ss_n aSS] sz) := by
  refine Met.ofW (cc := cX4_run) (maxL := 5) (ret := (some .int)) (by decide) rfl ?_
  intro p e s m args below meth c s₁ B hml hv
  obtain ⟨rfl, hsz, hP, hK, hD0⟩ := hv
  subst hsz
  have X := gX.ofB (ws := [cBO hBO bo_width bo_height bo_floor bo_goals bo_live bo_boxes bo_person hBS bo_liveBesideInRow bo_liveBesideInColumn, cSE hSE se_count se_length hSB hSL hSP hSU hSS se_found se_overfull, cJ G hSB sb_n aSB, cI G hSL sl_n aSL, cI G hSP sp_n aSP, cI G hSU su_n aSU, cI G hSS ss_n aSS]) B hml hK hD0
  have hD := hD0.self (sz := s.heap.size)
  generalize hAe : va_A [cBO hBO bo_width bo_height bo_floor bo_goals bo_live bo_boxes bo_person hBS bo_liveBesideInRow bo_liveBesideInColumn, cSE hSE se_count se_length hSB hSL hSP hSU hSS se_found se_overfull, cJ G hSB sb_n aSB, cI G hSL sl_n aSL, cI G hSP sp_n aSP, cI G hSU su_n aSU, cI G hSS ss_n aSS] s.heap.size = A at X hD ⊢
  have hS : va_S A s.heap s.heap [] := va_S.rf
  have hl := lv_entry ([.ref hSE, .ref hBO, .int v2]) (n := 5) (Nat.le_of_ble_eq_true rfl)
  rw [lg_entry_eq]
  generalize (lg_sl ([.ref hSE, .ref hBO, .int v2]) ++ List.replicate (5 - (lg_sl ([.ref hSE, .ref hBO, .int v2])).length) Slot.unset).toArray = ls at hl ⊢
  have hl : lv_has ls 5 [(0, .ref hSE), (1, .ref hBO), (2, .int v2)] := hl
  dsimp only [headSpec]
  unfold SE_run at h
  refine lv_aload_n X.1 X.2.1 dX4_run_0 rfl (lv_at hl 0 rfl) ?_
  refine g_get X hP 1 4 6 (v := .ref hSS) rfl rfl inX4 (by decide) fl_X4_25 rfl dX4_run_1 ?_
  refine lv_iconst (v := (0 : Int32)) X.1 X.2.1 dX4_run_4 (by decide) ?_
  obtain ⟨hln, h⟩ := h
  refine g_cv (wr := [cBO hBO bo_width bo_height bo_floor bo_goals bo_live bo_boxes bo_person hBS bo_liveBesideInRow bo_liveBesideInColumn, cSE hSE se_count se_length hSB hSL hSP hSU hSS se_found se_overfull, cJ G hSB sb_n aSB, cI G hSL sl_n aSL, cI G hSP sp_n aSP, cI G hSU su_n aSU]) X [6] [0, 1, 2, 3, 4, 5] (g_rS (As := [.ref hSS, .int (0 : Int32)]) (rest := []) X (c_fill l G hSS ss_n aSS (0 : Int32) hln _) lk_X4_28 rfl rfl ⟨Nat.le_of_ble_eq_true rfl, Nat.le_of_ble_eq_true rfl⟩ hP hD hS [6] rfl rfl rfl hl.1 rfl (Nat.le_of_ble_eq_true rfl) dX4_run_5 ⟨show 0 + 0 ≤ bc by omega, show 0 + 0 ≤ bs by omega⟩) hP hD hS rfl rfl rfl (by decide) (fun aSS_1 H locs hu hP hD hS => ?_)
  replace h := h aSS_1 hu
  replace hP := hP.sub (ws' := [cBO hBO bo_width bo_height bo_floor bo_goals bo_live bo_boxes bo_person hBS bo_liveBesideInRow bo_liveBesideInColumn, cSE hSE se_count se_length hSB hSL hSP hSU hSS se_found se_overfull, cJ G hSB sb_n aSB, cI G hSL sl_n aSL, cI G hSP sp_n aSP, cI G hSU su_n aSU, cI G hSS ss_n aSS_1]) [0, 1, 2, 3, 4, 5, 6] rfl
  replace hD := hD.sub (ws' := [cBO hBO bo_width bo_height bo_floor bo_goals bo_live bo_boxes bo_person hBS bo_liveBesideInRow bo_liveBesideInColumn, cSE hSE se_count se_length hSB hSL hSP hSU hSS se_found se_overfull, cJ G hSB sb_n aSB, cI G hSL sl_n aSL, cI G hSP sp_n aSP, cI G hSU su_n aSU, cI G hSS ss_n aSS_1]) [0, 1, 2, 3, 4, 5, 6] rfl rfl
  refine lv_aload_n X.1 X.2.1 dX4_run_8 rfl (lv_at hl 0 rfl) ?_
  refine lv_iconst (v := (0 : Int32)) X.1 X.2.1 dX4_run_9 (by decide) ?_
  refine g_put X hP hD hS 1 4 0 (v := .int (0 : Int32)) rfl rfl inX4 tyX4 tyX4_ok nmX4 (by decide) fl_X4_34 rfl rfl rfl rfl (Nat.le_of_ble_eq_true rfl) dX4_run_10 (fun H locs hP hD hS => ?_)
  replace hP : va_P G.1 gCl [cBO hBO bo_width bo_height bo_floor bo_goals bo_live bo_boxes bo_person hBS bo_liveBesideInRow bo_liveBesideInColumn, cSE hSE (0 : Int32) se_length hSB hSL hSP hSU hSS se_found se_overfull, cJ G hSB sb_n aSB, cI G hSL sl_n aSL, cI G hSP sp_n aSP, cI G hSU su_n aSU, cI G hSS ss_n aSS_1] H := hP
  replace hD : va_D A [cBO hBO bo_width bo_height bo_floor bo_goals bo_live bo_boxes bo_person hBS bo_liveBesideInRow bo_liveBesideInColumn, cSE hSE (0 : Int32) se_length hSB hSL hSP hSU hSS se_found se_overfull, cJ G hSB sb_n aSB, cI G hSL sl_n aSL, cI G hSP sp_n aSP, cI G hSU su_n aSU, cI G hSS ss_n aSS_1] := hD
  refine lv_aload_n X.1 X.2.1 dX4_run_13 rfl (lv_at hl 0 rfl) ?_
  refine lv_iconst (v := (0 : Int32)) X.1 X.2.1 dX4_run_14 (by decide) ?_
  refine g_put X hP hD hS 1 4 1 (v := .int (0 : Int32)) rfl rfl inX4 tyX4 tyX4_ok nmX4 (by decide) fl_X4_38 rfl rfl rfl rfl (Nat.le_of_ble_eq_true rfl) dX4_run_15 (fun H locs hP hD hS => ?_)
  replace hP : va_P G.1 gCl [cBO hBO bo_width bo_height bo_floor bo_goals bo_live bo_boxes bo_person hBS bo_liveBesideInRow bo_liveBesideInColumn, cSE hSE (0 : Int32) (0 : Int32) hSB hSL hSP hSU hSS se_found se_overfull, cJ G hSB sb_n aSB, cI G hSL sl_n aSL, cI G hSP sp_n aSP, cI G hSU su_n aSU, cI G hSS ss_n aSS_1] H := hP
  replace hD : va_D A [cBO hBO bo_width bo_height bo_floor bo_goals bo_live bo_boxes bo_person hBS bo_liveBesideInRow bo_liveBesideInColumn, cSE hSE (0 : Int32) (0 : Int32) hSB hSL hSP hSU hSS se_found se_overfull, cJ G hSB sb_n aSB, cI G hSL sl_n aSL, cI G hSP sp_n aSP, cI G hSU su_n aSU, cI G hSS ss_n aSS_1] := hD
  refine lv_aload_n X.1 X.2.1 dX4_run_18 rfl (lv_at hl 0 rfl) ?_
  refine lv_iconst (v := (-1 : Int32)) X.1 X.2.1 dX4_run_19 (by decide) ?_
  refine g_put X hP hD hS 1 4 7 (v := .int (-1 : Int32)) rfl rfl inX4 tyX4 tyX4_ok nmX4 (by decide) fl_X4_41 rfl rfl rfl rfl (Nat.le_of_ble_eq_true rfl) dX4_run_20 (fun H locs hP hD hS => ?_)
  replace hP : va_P G.1 gCl [cBO hBO bo_width bo_height bo_floor bo_goals bo_live bo_boxes bo_person hBS bo_liveBesideInRow bo_liveBesideInColumn, cSE hSE (0 : Int32) (0 : Int32) hSB hSL hSP hSU hSS (-1 : Int32) se_overfull, cJ G hSB sb_n aSB, cI G hSL sl_n aSL, cI G hSP sp_n aSP, cI G hSU su_n aSU, cI G hSS ss_n aSS_1] H := hP
  replace hD : va_D A [cBO hBO bo_width bo_height bo_floor bo_goals bo_live bo_boxes bo_person hBS bo_liveBesideInRow bo_liveBesideInColumn, cSE hSE (0 : Int32) (0 : Int32) hSB hSL hSP hSU hSS (-1 : Int32) se_overfull, cJ G hSB sb_n aSB, cI G hSL sl_n aSL, cI G hSP sp_n aSP, cI G hSU su_n aSU, cI G hSS ss_n aSS_1] := hD
  refine lv_aload_n X.1 X.2.1 dX4_run_23 rfl (lv_at hl 0 rfl) ?_
  refine lv_iconst (v := (0 : Int32)) X.1 X.2.1 dX4_run_24 (by decide) ?_
  refine g_put X hP hD hS 1 4 8 (v := .int (0 : Int32)) rfl rfl inX4 tyX4 tyX4_ok nmX4 (by decide) fl_X4_44 rfl rfl rfl rfl (Nat.le_of_ble_eq_true rfl) dX4_run_25 (fun H locs hP hD hS => ?_)
  replace hP : va_P G.1 gCl [cBO hBO bo_width bo_height bo_floor bo_goals bo_live bo_boxes bo_person hBS bo_liveBesideInRow bo_liveBesideInColumn, cSE hSE (0 : Int32) (0 : Int32) hSB hSL hSP hSU hSS (-1 : Int32) (0 : Int32), cJ G hSB sb_n aSB, cI G hSL sl_n aSL, cI G hSP sp_n aSP, cI G hSU su_n aSU, cI G hSS ss_n aSS_1] H := hP
  replace hD : va_D A [cBO hBO bo_width bo_height bo_floor bo_goals bo_live bo_boxes bo_person hBS bo_liveBesideInRow bo_liveBesideInColumn, cSE hSE (0 : Int32) (0 : Int32) hSB hSL hSP hSU hSS (-1 : Int32) (0 : Int32), cJ G hSB sb_n aSB, cI G hSL sl_n aSL, cI G hSP sp_n aSP, cI G hSU su_n aSU, cI G hSS ss_n aSS_1] := hD
  refine lv_aload_n X.1 X.2.1 dX4_run_28 rfl (lv_at hl 1 rfl) ?_
  refine lv_aload_n X.1 X.2.1 dX4_run_29 rfl (lv_at hl 1 rfl) ?_
  refine g_get X hP 0 0 6 (v := .long bo_person) rfl rfl inX0 (by decide) fl_X4_48 rfl dX4_run_30 ?_
  refine lv_aload_n X.1 X.2.1 dX4_run_33 rfl (lv_at hl 1 rfl) ?_
  refine g_get X hP 0 0 5 (v := .long bo_boxes) rfl rfl inX0 (by decide) fl_X4_54 rfl dX4_run_34 ?_
  refine g_cl (wr := [cSE hSE (0 : Int32) (0 : Int32) hSB hSL hSP hSU hSS (-1 : Int32) (0 : Int32), cJ G hSB sb_n aSB, cI G hSL sl_n aSL, cI G hSP sp_n aSP, cI G hSU su_n aSU, cI G hSS ss_n aSS_1]) X [0] [1, 2, 3, 4, 5, 6] (g_rV (As := [.long bo_person, .long bo_boxes]) (rest := []) X (c_BO_reachOf l G hBO hBS bo_width bo_height bo_floor bo_goals bo_live bo_boxes bo_person bo_liveBesideInRow bo_liveBesideInColumn bo_person bo_boxes _ h _) lk_X4_57 rfl rfl ⟨Nat.le_of_ble_eq_true rfl, Nat.le_of_ble_eq_true rfl⟩ hP hD hS [0] rfl rfl 0 0 rfl rfl rfl hl.1 rfl (Nat.le_of_ble_eq_true rfl) dX4_run_37 ⟨show 0 + 0 ≤ bc by omega, show 0 + 0 ≤ bs by omega⟩) hP hD hS rfl rfl rfl (by decide) (fun r_2 u H locs h hP hD hS => ?_)
  try dsimp only at h
  replace hP := hP.sub (ws' := [cBO hBO bo_width bo_height bo_floor bo_goals bo_live bo_boxes bo_person hBS bo_liveBesideInRow bo_liveBesideInColumn, cSE hSE (0 : Int32) (0 : Int32) hSB hSL hSP hSU hSS (-1 : Int32) (0 : Int32), cJ G hSB sb_n aSB, cI G hSL sl_n aSL, cI G hSP sp_n aSP, cI G hSU su_n aSU, cI G hSS ss_n aSS_1]) [6, 0, 1, 2, 3, 4, 5] rfl
  replace hD := hD.sub (ws' := [cBO hBO bo_width bo_height bo_floor bo_goals bo_live bo_boxes bo_person hBS bo_liveBesideInRow bo_liveBesideInColumn, cSE hSE (0 : Int32) (0 : Int32) hSB hSL hSP hSU hSS (-1 : Int32) (0 : Int32), cJ G hSB sb_n aSB, cI G hSL sl_n aSL, cI G hSP sp_n aSP, cI G hSU su_n aSU, cI G hSS ss_n aSS_1]) [6, 0, 1, 2, 3, 4, 5] rfl rfl
  refine g_ci (wr := [cBO hBO bo_width bo_height bo_floor bo_goals bo_live bo_boxes bo_person hBS bo_liveBesideInRow bo_liveBesideInColumn, cSE hSE (0 : Int32) (0 : Int32) hSB hSL hSP hSU hSS (-1 : Int32) (0 : Int32), cJ G hSB sb_n aSB, cI G hSL sl_n aSL, cI G hSP sp_n aSP, cI G hSU su_n aSU, cI G hSS ss_n aSS_1]) X [] [0, 1, 2, 3, 4, 5, 6] (g_rN (As := [.long r_2]) (rest := []) X (c_PB_spotOf l G r_2 _ h _) lk_X4_61 rfl rfl ⟨Nat.le_of_ble_eq_true rfl, Nat.le_of_ble_eq_true rfl⟩ hP hD hS [] rfl rfl rfl hl.1 rfl (Nat.le_of_ble_eq_true rfl) dX4_run_40 ⟨show 0 + 0 ≤ bc by omega, show 0 + 0 ≤ bs by omega⟩) hP hD hS rfl rfl rfl (by decide) (fun r_3 u H locs h hP hD hS => ?_)
  try dsimp only at h
  replace hP := hP.sub (ws' := [cBO hBO bo_width bo_height bo_floor bo_goals bo_live bo_boxes bo_person hBS bo_liveBesideInRow bo_liveBesideInColumn, cSE hSE (0 : Int32) (0 : Int32) hSB hSL hSP hSU hSS (-1 : Int32) (0 : Int32), cJ G hSB sb_n aSB, cI G hSL sl_n aSL, cI G hSP sp_n aSP, cI G hSU su_n aSU, cI G hSS ss_n aSS_1]) [0, 1, 2, 3, 4, 5, 6] rfl
  replace hD := hD.sub (ws' := [cBO hBO bo_width bo_height bo_floor bo_goals bo_live bo_boxes bo_person hBS bo_liveBesideInRow bo_liveBesideInColumn, cSE hSE (0 : Int32) (0 : Int32) hSB hSL hSP hSU hSS (-1 : Int32) (0 : Int32), cJ G hSB sb_n aSB, cI G hSL sl_n aSL, cI G hSP sp_n aSP, cI G hSU su_n aSU, cI G hSS ss_n aSS_1]) [0, 1, 2, 3, 4, 5, 6] rfl rfl
  refine lv_istore_n (lv' := [(3, .int r_3), (0, .ref hSE), (1, .ref hBO), (2, .int v2)]) X.1 X.2.1 dX4_run_43 rfl hl (by decide) rfl (fun ls hl => ?_)
  refine lv_aload_n X.1 X.2.1 dX4_run_44 rfl (lv_at hl 1 rfl) ?_
  refine lv_aload_n X.1 X.2.1 dX4_run_45 rfl (lv_at hl 2 rfl) ?_
  refine g_get X hP 0 0 5 (v := .long bo_boxes) rfl rfl inX0 (by decide) fl_X4_54 rfl dX4_run_46 ?_
  refine lv_iload_n X.1 X.2.1 dX4_run_49 rfl (lv_at hl 0 rfl) ?_
  refine lv_iconst (v := (0 : Int32)) X.1 X.2.1 dX4_run_50 (by decide) ?_
  refine lv_iconst (v := (0 : Int32)) X.1 X.2.1 dX4_run_51 (by decide) ?_
  obtain ⟨bc_15, bs_16, hb1, hb2, h⟩ := h
  refine g_cv (wr := [cBO hBO bo_width bo_height bo_floor bo_goals bo_live bo_boxes bo_person hBS bo_liveBesideInRow bo_liveBesideInColumn]) X [1, 2, 3, 4, 5, 6] [0] (g_rV (As := [.long bo_boxes, .int r_3, .int (0 : Int32), .int (0 : Int32)]) (rest := []) X (c_SE_takeIn l G hSE hSB hSL hSP hSU hSS (0 : Int32) (0 : Int32) (-1 : Int32) (0 : Int32) sb_n aSB sl_n aSL sp_n aSP su_n aSU ss_n aSS_1 bo_boxes r_3 (0 : Int32) (0 : Int32) bc_15 bs_16 _ h _) lk_X4_65 rfl rfl ⟨Nat.le_of_ble_eq_true rfl, Nat.le_of_ble_eq_true rfl⟩ hP hD hS [1, 2, 3, 4, 5, 6] rfl rfl 1 4 rfl rfl rfl hl.1 rfl (Nat.le_of_ble_eq_true rfl) dX4_run_52 ⟨show 0 + bc_15 ≤ bc by omega, show 0 + bs_16 ≤ bs by omega⟩) hP hD hS rfl rfl rfl (by decide) (fun u H locs h hP hD hS => ?_)
  obtain ⟨se_count_4, sb_n_5, aSB_6, sl_n_7, aSL_8, sp_n_9, aSP_10, su_n_11, aSU_12, ss_n_13, aSS_14, hSB_17, hSL_18, hSP_19, hSU_20, hSS_21⟩ := u
  try dsimp only at h
  replace hP := hP.sub (ws' := [cBO hBO bo_width bo_height bo_floor bo_goals bo_live bo_boxes bo_person hBS bo_liveBesideInRow bo_liveBesideInColumn, cSE hSE se_count_4 (0 : Int32) hSB_17 hSL_18 hSP_19 hSU_20 hSS_21 (-1 : Int32) (0 : Int32), cJ G hSB_17 sb_n_5 aSB_6, cI G hSL_18 sl_n_7 aSL_8, cI G hSP_19 sp_n_9 aSP_10, cI G hSU_20 su_n_11 aSU_12, cI G hSS_21 ss_n_13 aSS_14]) [0, 1, 2, 3, 4, 5, 6] rfl
  replace hD := hD.sub (ws' := [cBO hBO bo_width bo_height bo_floor bo_goals bo_live bo_boxes bo_person hBS bo_liveBesideInRow bo_liveBesideInColumn, cSE hSE se_count_4 (0 : Int32) hSB_17 hSL_18 hSP_19 hSU_20 hSS_21 (-1 : Int32) (0 : Int32), cJ G hSB_17 sb_n_5 aSB_6, cI G hSL_18 sl_n_7 aSL_8, cI G hSP_19 sp_n_9 aSP_10, cI G hSU_20 su_n_11 aSU_12, cI G hSS_21 ss_n_13 aSS_14]) [0, 1, 2, 3, 4, 5, 6] rfl rfl
  refine lv_aload_n X.1 X.2.1 dX4_run_55 rfl (lv_at hl 2 rfl) ?_
  refine lv_aload_n X.1 X.2.1 dX4_run_56 rfl (lv_at hl 2 rfl) ?_
  refine g_get X hP 0 0 5 (v := .long bo_boxes) rfl rfl inX0 (by decide) fl_X4_54 rfl dX4_run_57 ?_
  refine g_ci (wr := [cSE hSE se_count_4 (0 : Int32) hSB_17 hSL_18 hSP_19 hSU_20 hSS_21 (-1 : Int32) (0 : Int32), cJ G hSB_17 sb_n_5 aSB_6, cI G hSL_18 sl_n_7 aSL_8, cI G hSP_19 sp_n_9 aSP_10, cI G hSU_20 su_n_11 aSU_12, cI G hSS_21 ss_n_13 aSS_14]) X [0] [1, 2, 3, 4, 5, 6] (g_rV (As := [.long bo_boxes]) (rest := []) X (c_BO_isDone l G hBO hBS bo_width bo_height bo_floor bo_goals bo_live bo_boxes bo_person bo_liveBesideInRow bo_liveBesideInColumn bo_boxes _ h _) lk_X4_69 rfl rfl ⟨Nat.le_of_ble_eq_true rfl, Nat.le_of_ble_eq_true rfl⟩ hP hD hS [0] rfl rfl 0 0 rfl rfl rfl hl.1 rfl (Nat.le_of_ble_eq_true rfl) dX4_run_60 ⟨show (0 + bc_15) + 0 ≤ bc by omega, show (0 + bs_16) + 0 ≤ bs by omega⟩) hP hD hS rfl rfl rfl (by decide) (fun r_22 u H locs h hP hD hS => ?_)
  try dsimp only at h
  replace hP := hP.sub (ws' := [cBO hBO bo_width bo_height bo_floor bo_goals bo_live bo_boxes bo_person hBS bo_liveBesideInRow bo_liveBesideInColumn, cSE hSE se_count_4 (0 : Int32) hSB_17 hSL_18 hSP_19 hSU_20 hSS_21 (-1 : Int32) (0 : Int32), cJ G hSB_17 sb_n_5 aSB_6, cI G hSL_18 sl_n_7 aSL_8, cI G hSP_19 sp_n_9 aSP_10, cI G hSU_20 su_n_11 aSU_12, cI G hSS_21 ss_n_13 aSS_14]) [6, 0, 1, 2, 3, 4, 5] rfl
  replace hD := hD.sub (ws' := [cBO hBO bo_width bo_height bo_floor bo_goals bo_live bo_boxes bo_person hBS bo_liveBesideInRow bo_liveBesideInColumn, cSE hSE se_count_4 (0 : Int32) hSB_17 hSL_18 hSP_19 hSU_20 hSS_21 (-1 : Int32) (0 : Int32), cJ G hSB_17 sb_n_5 aSB_6, cI G hSL_18 sl_n_7 aSL_8, cI G hSP_19 sp_n_9 aSP_10, cI G hSU_20 su_n_11 aSU_12, cI G hSS_21 ss_n_13 aSS_14]) [6, 0, 1, 2, 3, 4, 5] rfl rfl
  refine lv_if_eq (tgt := 71) X.1 X.2.1 dX4_run_63 (by decide) (fun hc => ?_) (fun hc => ?_)
  · replace h := Eq.mp (if_pos hc) h
    refine lv_iconst (v := (0 : Int32)) X.1 X.2.1 dX4_run_71 (by decide) ?_
    refine lv_istore (lv' := [(4, .int (0 : Int32)), (3, .int r_3), (0, .ref hSE), (1, .ref hBO), (2, .int v2)]) X.1 X.2.1 dX4_run_72 hl (by decide) rfl (fun ls hl => ?_)
    obtain ⟨n', h⟩ := h
    exact s_SE_run_74 X  n' (bc - bc_15) (bs - bs_16) se_count_4 (0 : Int32) (-1 : Int32) (0 : Int32) sb_n_5 aSB_6 sl_n_7 aSL_8 sp_n_9 aSP_10 su_n_11 aSU_12 ss_n_13 aSS_14 v2 (0 : Int32) hSB_17 hSL_18 hSP_19 hSU_20 hSS_21 (0 + bc_15) (0 + bs_16) _ _ _ h (by omega) (by omega) hP hD hS (lv_sub hl [2, 3, 4, 0] rfl)
  · replace h := Eq.mp (if_neg hc) h
    refine lv_aload_n X.1 X.2.1 dX4_run_66 rfl (lv_at hl 1 rfl) ?_
    refine lv_iconst (v := (0 : Int32)) X.1 X.2.1 dX4_run_67 (by decide) ?_
    refine g_put X hP hD hS 1 4 7 (v := .int (0 : Int32)) rfl rfl inX4 tyX4 tyX4_ok nmX4 (by decide) fl_X4_41 rfl rfl rfl rfl (Nat.le_of_ble_eq_true rfl) dX4_run_68 (fun H locs hP hD hS => ?_)
    replace hP : va_P G.1 gCl [cBO hBO bo_width bo_height bo_floor bo_goals bo_live bo_boxes bo_person hBS bo_liveBesideInRow bo_liveBesideInColumn, cSE hSE se_count_4 (0 : Int32) hSB_17 hSL_18 hSP_19 hSU_20 hSS_21 (0 : Int32) (0 : Int32), cJ G hSB_17 sb_n_5 aSB_6, cI G hSL_18 sl_n_7 aSL_8, cI G hSP_19 sp_n_9 aSP_10, cI G hSU_20 su_n_11 aSU_12, cI G hSS_21 ss_n_13 aSS_14] H := hP
    replace hD : va_D A [cBO hBO bo_width bo_height bo_floor bo_goals bo_live bo_boxes bo_person hBS bo_liveBesideInRow bo_liveBesideInColumn, cSE hSE se_count_4 (0 : Int32) hSB_17 hSL_18 hSP_19 hSU_20 hSS_21 (0 : Int32) (0 : Int32), cJ G hSB_17 sb_n_5 aSB_6, cI G hSL_18 sl_n_7 aSL_8, cI G hSP_19 sp_n_9 aSP_10, cI G hSU_20 su_n_11 aSU_12, cI G hSS_21 ss_n_13 aSS_14] := hD
    refine lv_iconst (v := (0 : Int32)) X.1 X.2.1 dX4_run_71 (by decide) ?_
    refine lv_istore (lv' := [(4, .int (0 : Int32)), (3, .int r_3), (0, .ref hSE), (1, .ref hBO), (2, .int v2)]) X.1 X.2.1 dX4_run_72 hl (by decide) rfl (fun ls hl => ?_)
    obtain ⟨n', h⟩ := h
    exact s_SE_run_74 X  n' (bc - bc_15) (bs - bs_16) se_count_4 (0 : Int32) (0 : Int32) (0 : Int32) sb_n_5 aSB_6 sl_n_7 aSL_8 sp_n_9 aSP_10 su_n_11 aSU_12 ss_n_13 aSS_14 v2 (0 : Int32) hSB_17 hSL_18 hSP_19 hSU_20 hSS_21 (0 + bc_15) (0 + bs_16) _ _ _ h (by omega) (by omega) hP hD hS (lv_sub hl [2, 3, 4, 0] rfl)
abbrev rm_SE_pushAt : Room := { frames := 0, cells := 0, slots := 0, locals := 0 }
set_option maxHeartbeats 4000000 in
set_option maxRecDepth 100000 in
theorem s_SE_pushAt_12 {p : Program} {l : Launch} {e : Env} {s : State} {m : MethodId} {args : Array Value} {below : List Frame} {meth : Method} {c : Code} {G : gEnv} {A : Nat → Prop} {hSE : Nat} {hSB : Nat} {hSL : Nat} {hSP : Nat} {hSU : Nat} {hSS : Nat} {se_count : Int32} {se_overfull : Int32} {se_length : Int32} {se_found : Int32} {sp_n : Nat} {aSP : Nat → Int32} {su_n : Nat} {aSU : Nat → Int32} {post : Int32 → Prop} (X : gX p m meth c cX4_pushAt 4 RX4 (some .int) s args G A)  : ∀ (n : Nat) (v1 : Int32) (v2 : Int32) (v3 : Int32) (H : Heap) (locs : List Loc) (ls : Array Slot), SE_pushAt_12 se_length se_found sp_n aSP su_n aSU post n v1 v2 v3 → va_P G.1 gCl [cSE hSE se_count se_length hSB hSL hSP hSU hSS se_found se_overfull, cI G hSP sp_n aSP, cI G hSU su_n aSU] H → va_D A [cSE hSE se_count se_length hSB hSL hSP hSU hSS se_found se_overfull, cI G hSP sp_n aSP, cI G hSU su_n aSU] → va_S A s.heap H locs → lv_has ls 4 [(0, .ref hSE), (1, .int v1), (2, .int v2), (3, .int v3)] → W p l e rm_SE_pushAt s m args below meth c H locs 0 0 (MQ below (gQi G (fun (r : Int32) (u : Unit) => post r ) (fun (u : Unit) => [cSE hSE se_count se_length hSB hSL hSP hSU hSS se_found se_overfull, cI G hSP sp_n aSP, cI G hSU su_n aSU]) A) args s 0 0 A) (F0 m 12 ls []) := by
  intro n
  induction n with
  | zero => intro v1 v2 v3 H locs ls h _ _ _ _; exact h.elim
  | succ n ih =>
    intro v1 v2 v3 H locs ls h hP hD hS hl
    unfold SE_pushAt_12 at h
    refine lv_iload_n X.1 X.2.1 dX4_pushAt_12 rfl (lv_at hl 3 rfl) ?_
    refine lv_iload_n X.1 X.2.1 dX4_pushAt_13 rfl (lv_at hl 1 rfl) ?_
    refine lv_icmp_le (tgt := 30) X.1 X.2.1 dX4_pushAt_14 (by decide) (fun hc => ?_) (fun hc => ?_)
    · replace h := Eq.mp (if_pos hc) h
      refine lv_aload_n X.1 X.2.1 dX4_pushAt_30 rfl (lv_at hl 0 rfl) ?_
      refine g_get X hP 0 4 5 (v := .ref hSU) rfl rfl inX4 (by decide) fl_X4_22 rfl dX4_pushAt_31 ?_
      refine lv_iload_n X.1 X.2.1 dX4_pushAt_34 rfl (lv_at hl 2 rfl) ?_
      obtain ⟨hin, h⟩ := h
      refine va_iald (D := G.1) X.1 X.2.1 X.k.1 hP 2 0 rfl rfl hin dX4_pushAt_35 ?_
      exact g_iret X () h hP hD hS dX4_pushAt_36
    · replace h := Eq.mp (if_neg hc) h
      refine lv_aload_n X.1 X.2.1 dX4_pushAt_17 rfl (lv_at hl 0 rfl) ?_
      refine g_get X hP 0 4 4 (v := .ref hSP) rfl rfl inX4 (by decide) fl_X4_19 rfl dX4_pushAt_18 ?_
      refine lv_iload_n X.1 X.2.1 dX4_pushAt_21 rfl (lv_at hl 2 rfl) ?_
      obtain ⟨hin, h⟩ := h
      refine va_iald (D := G.1) X.1 X.2.1 X.k.1 hP 1 0 rfl rfl hin dX4_pushAt_22 ?_
      refine lv_topi (fun v2_1 e_v2_1 => ?_)
      replace h := h v2_1 e_v2_1
      refine lv_istore_n (lv' := [(2, .int v2_1), (0, .ref hSE), (1, .int v1), (3, .int v3)]) X.1 X.2.1 dX4_pushAt_23 rfl hl (by decide) rfl (fun ls hl => ?_)
      refine lv_iinc (v := (v3 + (-1 : Int32))) (lv' := [(3, .int (v3 + (-1 : Int32))), (2, .int v2_1), (0, .ref hSE), (1, .int v1)]) X.1 X.2.1 dX4_pushAt_24 hl (k := 3) rfl rfl (by decide) rfl (fun ls hl => ?_)
      refine lv_goto (tgt := 12) X.1 X.2.1 dX4_pushAt_27 (by decide) ?_
      exact ih v1 v2_1 (v3 + (-1 : Int32)) _ _ _ h hP hD hS (lv_sub hl [2, 3, 1, 0] rfl)
set_option maxHeartbeats 4000000 in
set_option maxRecDepth 100000 in
theorem c_SE_pushAt (l : Launch) (G : gEnv) (hSE : Nat) (hSB : Nat) (hSL : Nat) (hSP : Nat) (hSU : Nat) (hSS : Nat) (se_count : Int32) (se_length : Int32) (se_found : Int32) (se_overfull : Int32) (sp_n : Nat) (aSP : Nat → Int32) (su_n : Nat) (aSU : Nat → Int32) (v1 : Int32) (post : Int32 → Prop) (h : SE_pushAt se_length se_found sp_n aSP su_n aSU v1 post) (sz : Nat) : Met l yX4_pushAt (Cond.code yX4_pushAt cX4_pushAt 4 (some .int) :: wAll) (rm_SE_pushAt) (gPc G [.ref hSE, .int v1] [cSE hSE se_count se_length hSB hSL hSP hSU hSS se_found se_overfull, cI G hSP sp_n aSP, cI G hSU su_n aSU] sz) (gQi G (fun (r : Int32) (u : Unit) => post r ) (fun (u : Unit) => [cSE hSE se_count se_length hSB hSL hSP hSU hSS se_found se_overfull, cI G hSP sp_n aSP, cI G hSU su_n aSU]) (va_A [cSE hSE se_count se_length hSB hSL hSP hSU hSS se_found se_overfull, cI G hSP sp_n aSP, cI G hSU su_n aSU] sz)) 0 0 (va_A [cSE hSE se_count se_length hSB hSL hSP hSU hSS se_found se_overfull, cI G hSP sp_n aSP, cI G hSU su_n aSU] sz) := by
  refine Met.ofW (cc := cX4_pushAt) (maxL := 4) (ret := (some .int)) (by decide) rfl ?_
  intro p e s m args below meth c s₁ B hml hv
  obtain ⟨rfl, hsz, hP, hK, hD0⟩ := hv
  subst hsz
  have X := gX.ofB (ws := [cSE hSE se_count se_length hSB hSL hSP hSU hSS se_found se_overfull, cI G hSP sp_n aSP, cI G hSU su_n aSU]) B hml hK hD0
  have hD := hD0.self (sz := s.heap.size)
  generalize hAe : va_A [cSE hSE se_count se_length hSB hSL hSP hSU hSS se_found se_overfull, cI G hSP sp_n aSP, cI G hSU su_n aSU] s.heap.size = A at X hD ⊢
  have hS : va_S A s.heap s.heap [] := va_S.rf
  have hl := lv_entry ([.ref hSE, .int v1]) (n := 4) (Nat.le_of_ble_eq_true rfl)
  rw [lg_entry_eq]
  generalize (lg_sl ([.ref hSE, .int v1]) ++ List.replicate (4 - (lg_sl ([.ref hSE, .int v1])).length) Slot.unset).toArray = ls at hl ⊢
  have hl : lv_has ls 4 [(0, .ref hSE), (1, .int v1)] := hl
  dsimp only [headSpec]
  unfold SE_pushAt at h
  refine lv_aload_n X.1 X.2.1 dX4_pushAt_0 rfl (lv_at hl 0 rfl) ?_
  refine g_get X hP 0 4 7 (v := .int se_found) rfl rfl inX4 (by decide) fl_X4_41 rfl dX4_pushAt_1 ?_
  refine lv_istore_n (lv' := [(2, .int se_found), (0, .ref hSE), (1, .int v1)]) X.1 X.2.1 dX4_pushAt_4 rfl hl (by decide) rfl (fun ls hl => ?_)
  refine lv_aload_n X.1 X.2.1 dX4_pushAt_5 rfl (lv_at hl 1 rfl) ?_
  refine g_get X hP 0 4 1 (v := .int se_length) rfl rfl inX4 (by decide) fl_X4_38 rfl dX4_pushAt_6 ?_
  refine lv_iconst (v := (1 : Int32)) X.1 X.2.1 dX4_pushAt_9 (by decide) ?_
  refine lv_isub X.1 X.2.1 dX4_pushAt_10 ?_
  refine lv_topi (fun v3_1 e_v3_1 => ?_)
  replace h := h v3_1 e_v3_1
  refine lv_istore_n (lv' := [(3, .int v3_1), (2, .int se_found), (0, .ref hSE), (1, .int v1)]) X.1 X.2.1 dX4_pushAt_11 rfl hl (by decide) rfl (fun ls hl => ?_)
  obtain ⟨n', h⟩ := h
  exact s_SE_pushAt_12 X  n' v1 se_found v3_1 _ _ _ h hP hD hS (lv_sub hl [2, 3, 1, 0] rfl)
