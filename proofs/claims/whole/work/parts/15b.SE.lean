abbrev rm_SE_slotOf : Room := { frames := 0, cells := 0, slots := 0, locals := 0 }
set_option maxHeartbeats 4000000 in
set_option maxRecDepth 100000 in
theorem s_SE_slotOf_86 {p : Program} {l : Launch} {e : Env} {s : State} {m : MethodId} {args : Array Value} {below : List Frame} {meth : Method} {c : Code} {G : gEnv} {A : Nat → Prop} {hSE : Nat} {hSB : Nat} {hSL : Nat} {hSP : Nat} {hSU : Nat} {hSS : Nat} {se_count : Int32} {se_length : Int32} {se_found : Int32} {se_overfull : Int32} {sb_n : Nat} {aSB : Nat → Int64} {sl_n : Nat} {aSL : Nat → Int32} {ss_n : Nat} {aSS : Nat → Int32} {k37 : Int64 → Int32 → Int32 → Int32 → Int32 → Prop} {post : Int32 → Prop} (X : gX p m meth c cX4_slotOf 10 RX4 (some .int) s args G A) (hk37 : ∀ (v1' : Int64) (v3' : Int32) (v4' : Int32) (v7' : Int32) (v8' : Int32) (H : Heap) (locs : List Loc) (ls : Array Slot), k37 v1' v3' v4' v7' v8' → va_P G.1 gCl [cSE hSE se_count se_length hSB hSL hSP hSU hSS se_found se_overfull, cJ G hSB sb_n aSB, cI G hSL sl_n aSL, cI G hSS ss_n aSS] H → va_D A [cSE hSE se_count se_length hSB hSL hSP hSU hSS se_found se_overfull, cJ G hSB sb_n aSB, cI G hSL sl_n aSL, cI G hSS ss_n aSS] → va_S A s.heap H locs → lv_has ls 10 [(0, .ref hSE), (1, .long v1'), (3, .int v3'), (4, .int v4'), (7, .int v7'), (8, .int v8')] → W p l e rm_SE_slotOf s m args below meth c H locs 0 0 (MQ below (gQi G (fun (r : Int32) (u : Unit) => post r ) (fun (u : Unit) => [cSE hSE se_count se_length hSB hSL hSP hSU hSS se_found se_overfull, cJ G hSB sb_n aSB, cI G hSL sl_n aSL, cI G hSS ss_n aSS]) A) args s 0 0 A) (F0 m 37 ls [])) : ∀ (v1 : Int64) (v3 : Int32) (v4 : Int32) (v7 : Int32) (v8 : Int32) (H : Heap) (locs : List Loc) (ls : Array Slot), SE_slotOf_86 sb_n aSB sl_n aSL ss_n aSS k37 post v1 v3 v4 v7 v8 → va_P G.1 gCl [cSE hSE se_count se_length hSB hSL hSP hSU hSS se_found se_overfull, cJ G hSB sb_n aSB, cI G hSL sl_n aSL, cI G hSS ss_n aSS] H → va_D A [cSE hSE se_count se_length hSB hSL hSP hSU hSS se_found se_overfull, cJ G hSB sb_n aSB, cI G hSL sl_n aSL, cI G hSS ss_n aSS] → va_S A s.heap H locs → lv_has ls 10 [(0, .ref hSE), (1, .long v1), (3, .int v3), (4, .int v4), (7, .int v7), (8, .int v8)] → W p l e rm_SE_slotOf s m args below meth c H locs 0 0 (MQ below (gQi G (fun (r : Int32) (u : Unit) => post r ) (fun (u : Unit) => [cSE hSE se_count se_length hSB hSL hSP hSU hSS se_found se_overfull, cJ G hSB sb_n aSB, cI G hSL sl_n aSL, cI G hSS ss_n aSS]) A) args s 0 0 A) (F0 m 86 ls []) := by
  intro v1 v3 v4 v7 v8 H locs ls h hP hD hS hl
  unfold SE_slotOf_86 at h
  refine lv_iload X.1 X.2.1 dX4_slotOf_86 (lv_at hl 4 rfl) ?_
  refine lv_iconst (v := (1 : Int32)) X.1 X.2.1 dX4_slotOf_88 (by decide) ?_
  refine lv_iadd X.1 X.2.1 dX4_slotOf_89 ?_
  refine lv_iload X.1 X.2.1 dX4_slotOf_90 (lv_at hl 3 rfl) ?_
  refine lv_iand X.1 X.2.1 dX4_slotOf_92 ?_
  refine lv_topi (fun v7_1 e_v7_1 => ?_)
  replace h := h v7_1 e_v7_1
  refine lv_istore (lv' := [(7, .int v7_1), (0, .ref hSE), (1, .long v1), (3, .int v3), (4, .int v4), (8, .int v8)]) X.1 X.2.1 dX4_slotOf_93 hl (by decide) rfl (fun ls hl => ?_)
  refine lv_iinc (v := (v8 + (1 : Int32))) (lv' := [(8, .int (v8 + (1 : Int32))), (7, .int v7_1), (0, .ref hSE), (1, .long v1), (3, .int v3), (4, .int v4)]) X.1 X.2.1 dX4_slotOf_95 hl (k := 5) rfl rfl (by decide) rfl (fun ls hl => ?_)
  refine lv_goto (tgt := 37) X.1 X.2.1 dX4_slotOf_98 (by decide) ?_
  exact hk37 v1 v3 v4 v7_1 (v8 + (1 : Int32)) _ _ _ h hP hD hS (lv_sub hl [2, 3, 4, 5, 1, 0] rfl)
set_option maxHeartbeats 4000000 in
set_option maxRecDepth 100000 in
theorem s_SE_slotOf_37 {p : Program} {l : Launch} {e : Env} {s : State} {m : MethodId} {args : Array Value} {below : List Frame} {meth : Method} {c : Code} {G : gEnv} {A : Nat → Prop} {hSE : Nat} {hSB : Nat} {hSL : Nat} {hSP : Nat} {hSU : Nat} {hSS : Nat} {se_count : Int32} {se_length : Int32} {se_found : Int32} {se_overfull : Int32} {sb_n : Nat} {aSB : Nat → Int64} {sl_n : Nat} {aSL : Nat → Int32} {ss_n : Nat} {aSS : Nat → Int32} {post : Int32 → Prop} (X : gX p m meth c cX4_slotOf 10 RX4 (some .int) s args G A)  : ∀ (n : Nat) (v1 : Int64) (v3 : Int32) (v4 : Int32) (v7 : Int32) (v8 : Int32) (H : Heap) (locs : List Loc) (ls : Array Slot), SE_slotOf_37 sb_n aSB sl_n aSL ss_n aSS post n v1 v3 v4 v7 v8 → va_P G.1 gCl [cSE hSE se_count se_length hSB hSL hSP hSU hSS se_found se_overfull, cJ G hSB sb_n aSB, cI G hSL sl_n aSL, cI G hSS ss_n aSS] H → va_D A [cSE hSE se_count se_length hSB hSL hSP hSU hSS se_found se_overfull, cJ G hSB sb_n aSB, cI G hSL sl_n aSL, cI G hSS ss_n aSS] → va_S A s.heap H locs → lv_has ls 10 [(0, .ref hSE), (1, .long v1), (3, .int v3), (4, .int v4), (7, .int v7), (8, .int v8)] → W p l e rm_SE_slotOf s m args below meth c H locs 0 0 (MQ below (gQi G (fun (r : Int32) (u : Unit) => post r ) (fun (u : Unit) => [cSE hSE se_count se_length hSB hSL hSP hSU hSS se_found se_overfull, cJ G hSB sb_n aSB, cI G hSL sl_n aSL, cI G hSS ss_n aSS]) A) args s 0 0 A) (F0 m 37 ls []) := by
  intro n
  induction n with
  | zero => intro v1 v3 v4 v7 v8 H locs ls h _ _ _ _; exact h.elim
  | succ n ih =>
    intro v1 v3 v4 v7 v8 H locs ls h hP hD hS hl
    unfold SE_slotOf_37 at h
    refine lv_iload X.1 X.2.1 dX4_slotOf_37 (lv_at hl 5 rfl) ?_
    refine lv_iload X.1 X.2.1 dX4_slotOf_39 (lv_at hl 3 rfl) ?_
    refine lv_icmp_ge (tgt := 101) X.1 X.2.1 dX4_slotOf_41 (by decide) (fun hc => ?_) (fun hc => ?_)
    · replace h := Eq.mp (if_pos hc) h
      refine lv_iload X.1 X.2.1 dX4_slotOf_101 (lv_at hl 4 rfl) ?_
      exact g_iret X () h hP hD hS dX4_slotOf_103
    · replace h := Eq.mp (if_neg hc) h
      refine lv_aload_n X.1 X.2.1 dX4_slotOf_44 rfl (lv_at hl 0 rfl) ?_
      refine g_get X hP 0 4 6 (v := .ref hSS) rfl rfl inX4 (by decide) fl_X4_25 rfl dX4_slotOf_45 ?_
      refine lv_iload X.1 X.2.1 dX4_slotOf_48 (lv_at hl 4 rfl) ?_
      obtain ⟨hin, h⟩ := h
      refine va_iald (D := G.1) X.1 X.2.1 X.k.1 hP 3 0 rfl rfl hin dX4_slotOf_50 ?_
      refine lv_iconst (v := (1 : Int32)) X.1 X.2.1 dX4_slotOf_51 (by decide) ?_
      refine lv_isub X.1 X.2.1 dX4_slotOf_52 ?_
      refine lv_topi (fun v9_1 e_v9_1 => ?_)
      replace h := h v9_1 e_v9_1
      refine lv_istore (lv' := [(9, .int v9_1), (0, .ref hSE), (1, .long v1), (3, .int v3), (4, .int v4), (7, .int v7), (8, .int v8)]) X.1 X.2.1 dX4_slotOf_53 hl (by decide) rfl (fun ls hl => ?_)
      refine lv_iload X.1 X.2.1 dX4_slotOf_55 (lv_at hl 0 rfl) ?_
      refine lv_if_lt (tgt := 101) X.1 X.2.1 dX4_slotOf_57 (by decide) (fun hc => ?_) (fun hc => ?_)
      · replace h := Eq.mp (if_pos hc) h
        refine lv_iload X.1 X.2.1 dX4_slotOf_101 (lv_at hl 5 rfl) ?_
        exact g_iret X () h hP hD hS dX4_slotOf_103
      · replace h := Eq.mp (if_neg hc) h
        refine lv_aload_n X.1 X.2.1 dX4_slotOf_60 rfl (lv_at hl 1 rfl) ?_
        refine g_get X hP 0 4 2 (v := .ref hSB) rfl rfl inX4 (by decide) fl_X4_11 rfl dX4_slotOf_61 ?_
        refine lv_iload X.1 X.2.1 dX4_slotOf_64 (lv_at hl 0 rfl) ?_
        obtain ⟨hin, h⟩ := h
        refine va_lald (D := G.1) X.1 X.2.1 X.k.1 hP 1 1 rfl rfl hin dX4_slotOf_66 ?_
        refine lv_lload_n X.1 X.2.1 dX4_slotOf_67 rfl (lv_at hl 2 rfl) ?_
        refine g_lcmp_ne (tgt := 86) X dX4_slotOf_68 dX4_slotOf_69 (by decide) (fun hc => ?_) (fun hc => ?_)
        · replace h := Eq.mp (if_neg hc) h
          exact s_SE_slotOf_86 X (fun v1' v3' v4' v7' v8' H' locs' ls' h' hP' hD' hS' hl' => ih v1' v3' v4' v7' v8' H' locs' ls' h' hP' hD' hS' hl') v1 v3 v4 v7 v8 _ _ _ h hP hD hS (lv_sub hl [1, 2, 3, 4, 5, 6] rfl)
        · replace h := Eq.mp (if_pos hc) h
          refine lv_aload_n X.1 X.2.1 dX4_slotOf_72 rfl (lv_at hl 1 rfl) ?_
          refine g_get X hP 0 4 3 (v := .ref hSL) rfl rfl inX4 (by decide) fl_X4_15 rfl dX4_slotOf_73 ?_
          refine lv_iload X.1 X.2.1 dX4_slotOf_76 (lv_at hl 0 rfl) ?_
          obtain ⟨hin, h⟩ := h
          refine va_iald (D := G.1) X.1 X.2.1 X.k.1 hP 2 0 rfl rfl hin dX4_slotOf_78 ?_
          refine lv_iload_n X.1 X.2.1 dX4_slotOf_79 rfl (lv_at hl 3 rfl) ?_
          refine lv_icmp_ne (tgt := 86) X.1 X.2.1 dX4_slotOf_80 (by decide) (fun hc => ?_) (fun hc => ?_)
          · replace h := Eq.mp (if_neg hc) h
            exact s_SE_slotOf_86 X (fun v1' v3' v4' v7' v8' H' locs' ls' h' hP' hD' hS' hl' => ih v1' v3' v4' v7' v8' H' locs' ls' h' hP' hD' hS' hl') v1 v3 v4 v7 v8 _ _ _ h hP hD hS (lv_sub hl [1, 2, 3, 4, 5, 6] rfl)
          · replace h := Eq.mp (if_pos hc) h
            refine lv_goto (tgt := 101) X.1 X.2.1 dX4_slotOf_83 (by decide) ?_
            refine lv_iload X.1 X.2.1 dX4_slotOf_101 (lv_at hl 5 rfl) ?_
            exact g_iret X () h hP hD hS dX4_slotOf_103
set_option maxHeartbeats 4000000 in
set_option maxRecDepth 100000 in
theorem c_SE_slotOf (l : Launch) (G : gEnv) (hSE : Nat) (hSB : Nat) (hSL : Nat) (hSP : Nat) (hSU : Nat) (hSS : Nat) (se_count : Int32) (se_length : Int32) (se_found : Int32) (se_overfull : Int32) (sb_n : Nat) (aSB : Nat → Int64) (sl_n : Nat) (aSL : Nat → Int32) (ss_n : Nat) (aSS : Nat → Int32) (v1 : Int64) (v3 : Int32) (post : Int32 → Prop) (h : SE_slotOf sb_n aSB sl_n aSL ss_n aSS v1 v3 post) (sz : Nat) : Met l yX4_slotOf (Cond.code yX4_slotOf cX4_slotOf 10 (some .int) :: wAll) (rm_SE_slotOf) (gPc G [.ref hSE, .long v1, .int v3] [cSE hSE se_count se_length hSB hSL hSP hSU hSS se_found se_overfull, cJ G hSB sb_n aSB, cI G hSL sl_n aSL, cI G hSS ss_n aSS] sz) (gQi G (fun (r : Int32) (u : Unit) => post r ) (fun (u : Unit) => [cSE hSE se_count se_length hSB hSL hSP hSU hSS se_found se_overfull, cJ G hSB sb_n aSB, cI G hSL sl_n aSL, cI G hSS ss_n aSS]) (va_A [cSE hSE se_count se_length hSB hSL hSP hSU hSS se_found se_overfull, cJ G hSB sb_n aSB, cI G hSL sl_n aSL, cI G hSS ss_n aSS] sz)) 0 0 (va_A [cSE hSE se_count se_length hSB hSL hSP hSU hSS se_found se_overfull, cJ G hSB sb_n aSB, cI G hSL sl_n aSL, cI G hSS ss_n aSS] sz) := by
  refine Met.ofW (cc := cX4_slotOf) (maxL := 10) (ret := (some .int)) (by decide) rfl ?_
  intro p e s m args below meth c s₁ B hml hv
  obtain ⟨rfl, hsz, hP, hK, hD0⟩ := hv
  subst hsz
  have X := gX.ofB (ws := [cSE hSE se_count se_length hSB hSL hSP hSU hSS se_found se_overfull, cJ G hSB sb_n aSB, cI G hSL sl_n aSL, cI G hSS ss_n aSS]) B hml hK hD0
  have hD := hD0.self (sz := s.heap.size)
  generalize hAe : va_A [cSE hSE se_count se_length hSB hSL hSP hSU hSS se_found se_overfull, cJ G hSB sb_n aSB, cI G hSL sl_n aSL, cI G hSS ss_n aSS] s.heap.size = A at X hD ⊢
  have hS : va_S A s.heap s.heap [] := va_S.rf
  have hl := lv_entry ([.ref hSE, .long v1, .int v3]) (n := 10) (Nat.le_of_ble_eq_true rfl)
  rw [lg_entry_eq]
  generalize (lg_sl ([.ref hSE, .long v1, .int v3]) ++ List.replicate (10 - (lg_sl ([.ref hSE, .long v1, .int v3])).length) Slot.unset).toArray = ls at hl ⊢
  have hl : lv_has ls 10 [(0, .ref hSE), (1, .long v1), (3, .int v3)] := hl
  dsimp only [headSpec]
  unfold SE_slotOf at h
  refine lv_aload_n X.1 X.2.1 dX4_slotOf_0 rfl (lv_at hl 0 rfl) ?_
  refine g_get X hP 0 4 6 (v := .ref hSS) rfl rfl inX4 (by decide) fl_X4_25 rfl dX4_slotOf_1 ?_
  refine va_alen (D := G.1) (v := (nI ss_n)) X.1 X.2.1 X.k.1 hP 3 0 rfl rfl rfl dX4_slotOf_4 ?_
  refine lv_iconst (v := (1 : Int32)) X.1 X.2.1 dX4_slotOf_5 (by decide) ?_
  refine lv_isub X.1 X.2.1 dX4_slotOf_6 ?_
  refine lv_topi (fun v4_1 e_v4_1 => ?_)
  replace h := h v4_1 e_v4_1
  refine lv_istore (lv' := [(4, .int v4_1), (0, .ref hSE), (1, .long v1), (3, .int v3)]) X.1 X.2.1 dX4_slotOf_7 hl (by decide) rfl (fun ls hl => ?_)
  refine lv_lload_n X.1 X.2.1 dX4_slotOf_9 rfl (lv_at hl 2 rfl) ?_
  refine lv_ldc2 (v := (-7046029254386353131 : Int64)) X.1 X.2.1 X.2.2.2.1 (X.2.2.2.2.1 _ cn_X4_121) dX4_slotOf_10 ?_
  refine lv_lmul X.1 X.2.1 dX4_slotOf_13 ?_
  refine lv_iload_n X.1 X.2.1 dX4_slotOf_14 rfl (lv_at hl 3 rfl) ?_
  refine lv_i2l (v := v3.toInt64) X.1 X.2.1 dX4_slotOf_15 rfl ?_
  refine lv_ladd X.1 X.2.1 dX4_slotOf_16 ?_
  refine lv_ldc2 (v := (-7046029254386353131 : Int64)) X.1 X.2.1 X.2.2.2.1 (X.2.2.2.2.1 _ cn_X4_121) dX4_slotOf_17 ?_
  refine lv_lmul X.1 X.2.1 dX4_slotOf_20 ?_
  refine lv_topl (fun v5_2 e_v5_2 => ?_)
  replace h := h v5_2 e_v5_2
  refine lv_lstore (lv' := [(5, .long v5_2), (4, .int v4_1), (0, .ref hSE), (1, .long v1), (3, .int v3)]) X.1 X.2.1 dX4_slotOf_21 hl (by decide) rfl (fun ls hl => ?_)
  refine lv_lload X.1 X.2.1 dX4_slotOf_23 (lv_at hl 0 rfl) ?_
  refine lv_bipush (v := (40 : Int32)) X.1 X.2.1 dX4_slotOf_25 (by decide) ?_
  refine lv_lushr X.1 X.2.1 dX4_slotOf_27 rfl ?_
  refine lv_l2i (v := (v5_2.toUInt64 >>> ((40 : Int32).toInt64.toUInt64 &&& Int64.toUInt64 63)).toInt64.toInt32) X.1 X.2.1 dX4_slotOf_28 rfl ?_
  refine lv_iload X.1 X.2.1 dX4_slotOf_29 (lv_at hl 1 rfl) ?_
  refine lv_iand X.1 X.2.1 dX4_slotOf_31 ?_
  refine lv_topi (fun v7_3 e_v7_3 => ?_)
  replace h := h v7_3 e_v7_3
  refine lv_istore (lv' := [(7, .int v7_3), (5, .long v5_2), (4, .int v4_1), (0, .ref hSE), (1, .long v1), (3, .int v3)]) X.1 X.2.1 dX4_slotOf_32 hl (by decide) rfl (fun ls hl => ?_)
  refine lv_iconst (v := (0 : Int32)) X.1 X.2.1 dX4_slotOf_34 (by decide) ?_
  refine lv_istore (lv' := [(8, .int (0 : Int32)), (7, .int v7_3), (5, .long v5_2), (4, .int v4_1), (0, .ref hSE), (1, .long v1), (3, .int v3)]) X.1 X.2.1 dX4_slotOf_35 hl (by decide) rfl (fun ls hl => ?_)
  obtain ⟨n', h⟩ := h
  exact s_SE_slotOf_37 X  n' v1 v3 v4_1 v7_3 (0 : Int32) _ _ _ h hP hD hS (lv_sub hl [4, 5, 6, 3, 1, 0] rfl)
abbrev rm_SE_pushesTo : Room := { frames := 0, cells := 0, slots := 0, locals := 0 }
set_option maxHeartbeats 4000000 in
set_option maxRecDepth 100000 in
theorem s_SE_pushesTo_7 {p : Program} {l : Launch} {e : Env} {s : State} {m : MethodId} {args : Array Value} {below : List Frame} {meth : Method} {c : Code} {G : gEnv} {A : Nat → Prop} {hSE : Nat} {hSB : Nat} {hSL : Nat} {hSP : Nat} {hSU : Nat} {hSS : Nat} {se_length : Int32} {se_found : Int32} {se_overfull : Int32} {se_count : Int32} {sp_n : Nat} {aSP : Nat → Int32} {post : Int32 → Prop} (X : gX p m meth c cX4_pushesTo 5 RX4 (some .int) s args G A)  : ∀ (n : Nat) (v2 : Int32) (v3 : Int32) (v4 : Int32) (H : Heap) (locs : List Loc) (ls : Array Slot), SE_pushesTo_7 se_count sp_n aSP post n v2 v3 v4 → va_P G.1 gCl [cSE hSE se_count se_length hSB hSL hSP hSU hSS se_found se_overfull, cI G hSP sp_n aSP] H → va_D A [cSE hSE se_count se_length hSB hSL hSP hSU hSS se_found se_overfull, cI G hSP sp_n aSP] → va_S A s.heap H locs → lv_has ls 5 [(0, .ref hSE), (2, .int v2), (3, .int v3), (4, .int v4)] → W p l e rm_SE_pushesTo s m args below meth c H locs 0 0 (MQ below (gQi G (fun (r : Int32) (u : Unit) => post r ) (fun (u : Unit) => [cSE hSE se_count se_length hSB hSL hSP hSU hSS se_found se_overfull, cI G hSP sp_n aSP]) A) args s 0 0 A) (F0 m 7 ls []) := by
  intro n
  induction n with
  | zero => intro v2 v3 v4 H locs ls h _ _ _ _; exact h.elim
  | succ n ih =>
    intro v2 v3 v4 H locs ls h hP hD hS hl
    unfold SE_pushesTo_7 at h
    refine lv_iload X.1 X.2.1 dX4_pushesTo_7 (lv_at hl 3 rfl) ?_
    refine lv_aload_n X.1 X.2.1 dX4_pushesTo_9 rfl (lv_at hl 0 rfl) ?_
    refine g_get X hP 0 4 0 (v := .int se_count) rfl rfl inX4 (by decide) fl_X4_34 rfl dX4_pushesTo_10 ?_
    refine lv_icmp_ge (tgt := 36) X.1 X.2.1 dX4_pushesTo_13 (by decide) (fun hc => ?_) (fun hc => ?_)
    · replace h := Eq.mp (if_pos hc) h
      refine lv_iload_n X.1 X.2.1 dX4_pushesTo_36 rfl (lv_at hl 1 rfl) ?_
      exact g_iret X () h hP hD hS dX4_pushesTo_37
    · replace h := Eq.mp (if_neg hc) h
      refine lv_iload_n X.1 X.2.1 dX4_pushesTo_16 rfl (lv_at hl 2 rfl) ?_
      refine lv_if_le (tgt := 36) X.1 X.2.1 dX4_pushesTo_17 (by decide) (fun hc => ?_) (fun hc => ?_)
      · replace h := Eq.mp (if_pos hc) h
        refine lv_iload_n X.1 X.2.1 dX4_pushesTo_36 rfl (lv_at hl 1 rfl) ?_
        exact g_iret X () h hP hD hS dX4_pushesTo_37
      · replace h := Eq.mp (if_neg hc) h
        refine lv_aload_n X.1 X.2.1 dX4_pushesTo_20 rfl (lv_at hl 0 rfl) ?_
        refine g_get X hP 0 4 4 (v := .ref hSP) rfl rfl inX4 (by decide) fl_X4_19 rfl dX4_pushesTo_21 ?_
        refine lv_iload_n X.1 X.2.1 dX4_pushesTo_24 rfl (lv_at hl 2 rfl) ?_
        obtain ⟨hin, h⟩ := h
        refine va_iald (D := G.1) X.1 X.2.1 X.k.1 hP 1 0 rfl rfl hin dX4_pushesTo_25 ?_
        refine lv_topi (fun v3_1 e_v3_1 => ?_)
        replace h := h v3_1 e_v3_1
        refine lv_istore_n (lv' := [(3, .int v3_1), (0, .ref hSE), (2, .int v2), (4, .int v4)]) X.1 X.2.1 dX4_pushesTo_26 rfl hl (by decide) rfl (fun ls hl => ?_)
        refine lv_iinc (v := (v2 + (1 : Int32))) (lv' := [(2, .int (v2 + (1 : Int32))), (3, .int v3_1), (0, .ref hSE), (4, .int v4)]) X.1 X.2.1 dX4_pushesTo_27 hl (k := 2) rfl rfl (by decide) rfl (fun ls hl => ?_)
        refine lv_iinc (v := (v4 + (1 : Int32))) (lv' := [(4, .int (v4 + (1 : Int32))), (2, .int (v2 + (1 : Int32))), (3, .int v3_1), (0, .ref hSE)]) X.1 X.2.1 dX4_pushesTo_30 hl (k := 3) rfl rfl (by decide) rfl (fun ls hl => ?_)
        refine lv_goto (tgt := 7) X.1 X.2.1 dX4_pushesTo_33 (by decide) ?_
        exact ih (v2 + (1 : Int32)) v3_1 (v4 + (1 : Int32)) _ _ _ h hP hD hS (lv_sub hl [3, 1, 2, 0] rfl)
set_option maxHeartbeats 4000000 in
set_option maxRecDepth 100000 in
theorem c_SE_pushesTo (l : Launch) (G : gEnv) (hSE : Nat) (hSB : Nat) (hSL : Nat) (hSP : Nat) (hSU : Nat) (hSS : Nat) (se_count : Int32) (se_length : Int32) (se_found : Int32) (se_overfull : Int32) (sp_n : Nat) (aSP : Nat → Int32) (v1 : Int32) (post : Int32 → Prop) (h : SE_pushesTo se_count sp_n aSP v1 post) (sz : Nat) : Met l yX4_pushesTo (Cond.code yX4_pushesTo cX4_pushesTo 5 (some .int) :: wAll) (rm_SE_pushesTo) (gPc G [.ref hSE, .int v1] [cSE hSE se_count se_length hSB hSL hSP hSU hSS se_found se_overfull, cI G hSP sp_n aSP] sz) (gQi G (fun (r : Int32) (u : Unit) => post r ) (fun (u : Unit) => [cSE hSE se_count se_length hSB hSL hSP hSU hSS se_found se_overfull, cI G hSP sp_n aSP]) (va_A [cSE hSE se_count se_length hSB hSL hSP hSU hSS se_found se_overfull, cI G hSP sp_n aSP] sz)) 0 0 (va_A [cSE hSE se_count se_length hSB hSL hSP hSU hSS se_found se_overfull, cI G hSP sp_n aSP] sz) := by
  refine Met.ofW (cc := cX4_pushesTo) (maxL := 5) (ret := (some .int)) (by decide) rfl ?_
  intro p e s m args below meth c s₁ B hml hv
  obtain ⟨rfl, hsz, hP, hK, hD0⟩ := hv
  subst hsz
  have X := gX.ofB (ws := [cSE hSE se_count se_length hSB hSL hSP hSU hSS se_found se_overfull, cI G hSP sp_n aSP]) B hml hK hD0
  have hD := hD0.self (sz := s.heap.size)
  generalize hAe : va_A [cSE hSE se_count se_length hSB hSL hSP hSU hSS se_found se_overfull, cI G hSP sp_n aSP] s.heap.size = A at X hD ⊢
  have hS : va_S A s.heap s.heap [] := va_S.rf
  have hl := lv_entry ([.ref hSE, .int v1]) (n := 5) (Nat.le_of_ble_eq_true rfl)
  rw [lg_entry_eq]
  generalize (lg_sl ([.ref hSE, .int v1]) ++ List.replicate (5 - (lg_sl ([.ref hSE, .int v1])).length) Slot.unset).toArray = ls at hl ⊢
  have hl : lv_has ls 5 [(0, .ref hSE), (1, .int v1)] := hl
  dsimp only [headSpec]
  unfold SE_pushesTo at h
  refine lv_iconst (v := (0 : Int32)) X.1 X.2.1 dX4_pushesTo_0 (by decide) ?_
  refine lv_istore_n (lv' := [(2, .int (0 : Int32)), (0, .ref hSE), (1, .int v1)]) X.1 X.2.1 dX4_pushesTo_1 rfl hl (by decide) rfl (fun ls hl => ?_)
  refine lv_iload_n X.1 X.2.1 dX4_pushesTo_2 rfl (lv_at hl 2 rfl) ?_
  refine lv_istore_n (lv' := [(3, .int v1), (2, .int (0 : Int32)), (0, .ref hSE), (1, .int v1)]) X.1 X.2.1 dX4_pushesTo_3 rfl hl (by decide) rfl (fun ls hl => ?_)
  refine lv_iconst (v := (0 : Int32)) X.1 X.2.1 dX4_pushesTo_4 (by decide) ?_
  refine lv_istore (lv' := [(4, .int (0 : Int32)), (3, .int v1), (2, .int (0 : Int32)), (0, .ref hSE), (1, .int v1)]) X.1 X.2.1 dX4_pushesTo_5 hl (by decide) rfl (fun ls hl => ?_)
  obtain ⟨n', h⟩ := h
  exact s_SE_pushesTo_7 X  n' (0 : Int32) v1 (0 : Int32) _ _ _ h hP hD hS (lv_sub hl [3, 2, 1, 0] rfl)
abbrev rm_SE_pushAt : Room := { frames := 0, cells := 0, slots := 0, locals := 0 }
set_option maxHeartbeats 4000000 in
set_option maxRecDepth 100000 in
theorem s_SE_pushAt_12 {p : Program} {l : Launch} {e : Env} {s : State} {m : MethodId} {args : Array Value} {below : List Frame} {meth : Method} {c : Code} {G : gEnv} {A : Nat → Prop} {hSE : Nat} {hSB : Nat} {hSL : Nat} {hSP : Nat} {hSU : Nat} {hSS : Nat} {se_count : Int32} {se_overfull : Int32} {se_length : Int32} {se_found : Int32} {sp_n : Nat} {aSP : Nat → Int32} {su_n : Nat} {aSU : Nat → Int32} {post : Int32 → Prop} (X : gX p m meth c cX4_pushAt 4 RX4 (some .int) s args G A)  : ∀ (n : Nat) (v1 : Int32) (v2 : Int32) (v3 : Int32) (H : Heap) (locs : List Loc) (ls : Array Slot), SE_pushAt_12 se_length se_found sp_n aSP su_n aSU post n v1 v2 v3 → va_P G.1 gCl [cSE hSE se_count se_length hSB hSL hSP hSU hSS se_found se_overfull, cI G hSP sp_n aSP, cI G hSU su_n aSU] H → va_D A [cSE hSE se_count se_length hSB hSL hSP hSU hSS se_found se_overfull, cI G hSP sp_n aSP, cI G hSU su_n aSU] → va_S A s.heap H locs → lv_has ls 4 [(0, .ref hSE), (1, .int v1), (2, .int v2), (3, .int v3)] → W p l e rm_SE_pushAt s m args below meth c H locs 0 0 (MQ below (gQi G (fun (r : Int32) (u : Unit) => post r ) (fun (u : Unit) => [cSE hSE se_count se_length hSB hSL hSP hSU hSS se_found se_overfull, cI G hSP sp_n aSP, cI G hSU su_n aSU]) A) args s 0 0 A) (F0 m 12 ls []) := by
  intro n
  induction n with
  | zero => intro v1 v2 v3 H locs ls h _ _ _ _; exact h.elim
  | succ n ih =>
    intro v1 v2 v3 H locs ls h hP hD hS hl
    unfold SE_pushAt_12 at h
    refine lv_iload_n X.1 X.2.1 dX4_pushAt_12 rfl (lv_at hl 3 rfl) ?_
    refine lv_iload_n X.1 X.2.1 dX4_pushAt_13 rfl (lv_at hl 1 rfl) ?_
    refine lv_icmp_le (tgt := 30) X.1 X.2.1 dX4_pushAt_14 (by decide) (fun hc => ?_) (fun hc => ?_)
    · replace h := Eq.mp (if_pos hc) h
      refine lv_aload_n X.1 X.2.1 dX4_pushAt_30 rfl (lv_at hl 0 rfl) ?_
      refine g_get X hP 0 4 5 (v := .ref hSU) rfl rfl inX4 (by decide) fl_X4_22 rfl dX4_pushAt_31 ?_
      refine lv_iload_n X.1 X.2.1 dX4_pushAt_34 rfl (lv_at hl 2 rfl) ?_
      obtain ⟨hin, h⟩ := h
      refine va_iald (D := G.1) X.1 X.2.1 X.k.1 hP 2 0 rfl rfl hin dX4_pushAt_35 ?_
      exact g_iret X () h hP hD hS dX4_pushAt_36
    · replace h := Eq.mp (if_neg hc) h
      refine lv_aload_n X.1 X.2.1 dX4_pushAt_17 rfl (lv_at hl 0 rfl) ?_
      refine g_get X hP 0 4 4 (v := .ref hSP) rfl rfl inX4 (by decide) fl_X4_19 rfl dX4_pushAt_18 ?_
      refine lv_iload_n X.1 X.2.1 dX4_pushAt_21 rfl (lv_at hl 2 rfl) ?_
      obtain ⟨hin, h⟩ := h
      refine va_iald (D := G.1) X.1 X.2.1 X.k.1 hP 1 0 rfl rfl hin dX4_pushAt_22 ?_
      refine lv_topi (fun v2_1 e_v2_1 => ?_)
      replace h := h v2_1 e_v2_1
      refine lv_istore_n (lv' := [(2, .int v2_1), (0, .ref hSE), (1, .int v1), (3, .int v3)]) X.1 X.2.1 dX4_pushAt_23 rfl hl (by decide) rfl (fun ls hl => ?_)
      refine lv_iinc (v := (v3 + (-1 : Int32))) (lv' := [(3, .int (v3 + (-1 : Int32))), (2, .int v2_1), (0, .ref hSE), (1, .int v1)]) X.1 X.2.1 dX4_pushAt_24 hl (k := 3) rfl rfl (by decide) rfl (fun ls hl => ?_)
      refine lv_goto (tgt := 12) X.1 X.2.1 dX4_pushAt_27 (by decide) ?_
      exact ih v1 v2_1 (v3 + (-1 : Int32)) _ _ _ h hP hD hS (lv_sub hl [2, 3, 1, 0] rfl)
set_option maxHeartbeats 4000000 in
set_option maxRecDepth 100000 in
theorem c_SE_pushAt (l : Launch) (G : gEnv) (hSE : Nat) (hSB : Nat) (hSL : Nat) (hSP : Nat) (hSU : Nat) (hSS : Nat) (se_count : Int32) (se_length : Int32) (se_found : Int32) (se_overfull : Int32) (sp_n : Nat) (aSP : Nat → Int32) (su_n : Nat) (aSU : Nat → Int32) (v1 : Int32) (post : Int32 → Prop) (h : SE_pushAt se_length se_found sp_n aSP su_n aSU v1 post) (sz : Nat) : Met l yX4_pushAt (Cond.code yX4_pushAt cX4_pushAt 4 (some .int) :: wAll) (rm_SE_pushAt) (gPc G [.ref hSE, .int v1] [cSE hSE se_count se_length hSB hSL hSP hSU hSS se_found se_overfull, cI G hSP sp_n aSP, cI G hSU su_n aSU] sz) (gQi G (fun (r : Int32) (u : Unit) => post r ) (fun (u : Unit) => [cSE hSE se_count se_length hSB hSL hSP hSU hSS se_found se_overfull, cI G hSP sp_n aSP, cI G hSU su_n aSU]) (va_A [cSE hSE se_count se_length hSB hSL hSP hSU hSS se_found se_overfull, cI G hSP sp_n aSP, cI G hSU su_n aSU] sz)) 0 0 (va_A [cSE hSE se_count se_length hSB hSL hSP hSU hSS se_found se_overfull, cI G hSP sp_n aSP, cI G hSU su_n aSU] sz) := by
  refine Met.ofW (cc := cX4_pushAt) (maxL := 4) (ret := (some .int)) (by decide) rfl ?_
  intro p e s m args below meth c s₁ B hml hv
  obtain ⟨rfl, hsz, hP, hK, hD0⟩ := hv
  subst hsz
  have X := gX.ofB (ws := [cSE hSE se_count se_length hSB hSL hSP hSU hSS se_found se_overfull, cI G hSP sp_n aSP, cI G hSU su_n aSU]) B hml hK hD0
  have hD := hD0.self (sz := s.heap.size)
  generalize hAe : va_A [cSE hSE se_count se_length hSB hSL hSP hSU hSS se_found se_overfull, cI G hSP sp_n aSP, cI G hSU su_n aSU] s.heap.size = A at X hD ⊢
  have hS : va_S A s.heap s.heap [] := va_S.rf
  have hl := lv_entry ([.ref hSE, .int v1]) (n := 4) (Nat.le_of_ble_eq_true rfl)
  rw [lg_entry_eq]
  generalize (lg_sl ([.ref hSE, .int v1]) ++ List.replicate (4 - (lg_sl ([.ref hSE, .int v1])).length) Slot.unset).toArray = ls at hl ⊢
  have hl : lv_has ls 4 [(0, .ref hSE), (1, .int v1)] := hl
  dsimp only [headSpec]
  unfold SE_pushAt at h
  refine lv_aload_n X.1 X.2.1 dX4_pushAt_0 rfl (lv_at hl 0 rfl) ?_
  refine g_get X hP 0 4 7 (v := .int se_found) rfl rfl inX4 (by decide) fl_X4_41 rfl dX4_pushAt_1 ?_
  refine lv_istore_n (lv' := [(2, .int se_found), (0, .ref hSE), (1, .int v1)]) X.1 X.2.1 dX4_pushAt_4 rfl hl (by decide) rfl (fun ls hl => ?_)
  refine lv_aload_n X.1 X.2.1 dX4_pushAt_5 rfl (lv_at hl 1 rfl) ?_
  refine g_get X hP 0 4 1 (v := .int se_length) rfl rfl inX4 (by decide) fl_X4_38 rfl dX4_pushAt_6 ?_
  refine lv_iconst (v := (1 : Int32)) X.1 X.2.1 dX4_pushAt_9 (by decide) ?_
  refine lv_isub X.1 X.2.1 dX4_pushAt_10 ?_
  refine lv_topi (fun v3_1 e_v3_1 => ?_)
  replace h := h v3_1 e_v3_1
  refine lv_istore_n (lv' := [(3, .int v3_1), (2, .int se_found), (0, .ref hSE), (1, .int v1)]) X.1 X.2.1 dX4_pushAt_11 rfl hl (by decide) rfl (fun ls hl => ?_)
  obtain ⟨n', h⟩ := h
  exact s_SE_pushAt_12 X  n' v1 se_found v3_1 _ _ _ h hP hD hS (lv_sub hl [2, 3, 1, 0] rfl)
