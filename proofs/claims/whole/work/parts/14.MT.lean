abbrev rm_MT_setCost : Room := { frames := 0, cells := 0, slots := 0, locals := 0 }
set_option maxHeartbeats 4000000 in
set_option maxRecDepth 100000 in
theorem c_MT_setCost (l : Launch) (G : gEnv) (hMT : Nat) (hMC : Nat) (hGL : Nat) (hBL : Nat) (hGB : Nat) (hBB : Nat) (hSK : Nat) (hSN : Nat) (aMC : Nat → Int32) (v1 : Int32) (v2 : Int32) (v3 : Int32) (post : (Nat → Int32) → Prop) (h : MT_setCost aMC v1 v2 v3 post) (sz : Nat) : Met l yX2_setCost (Cond.code yX2_setCost cX2_setCost 4 none :: wAll) (rm_MT_setCost) (gPc G [.ref hMT, .int v1, .int v2, .int v3] [cMT hMT hMC hGL hBL hGB hBB hSK hSN, cI G hMC 169 aMC] sz) (gQv G (fun (u : (Nat → Int32)) => post u) (fun (u : (Nat → Int32)) => [cMT hMT hMC hGL hBL hGB hBB hSK hSN, cI G hMC 169 u]) (va_A [cMT hMT hMC hGL hBL hGB hBB hSK hSN, cI G hMC 169 aMC] sz)) 0 0 (va_A [cMT hMT hMC hGL hBL hGB hBB hSK hSN, cI G hMC 169 aMC] sz) := by
  refine Met.ofW (cc := cX2_setCost) (maxL := 4) (ret := none) (by decide) rfl ?_
  intro p e s m args below meth c s₁ B hml hv
  obtain ⟨rfl, hsz, hP, hK, hD0⟩ := hv
  subst hsz
  have X := gX.ofB (ws := [cMT hMT hMC hGL hBL hGB hBB hSK hSN, cI G hMC 169 aMC]) B hml hK hD0
  have hD := hD0.self (sz := s.heap.size)
  generalize hAe : va_A [cMT hMT hMC hGL hBL hGB hBB hSK hSN, cI G hMC 169 aMC] s.heap.size = A at X hD ⊢
  have hS : va_S A s.heap s.heap [] := va_S.rf
  have hl := lv_entry ([.ref hMT, .int v1, .int v2, .int v3]) (n := 4) (Nat.le_of_ble_eq_true rfl)
  rw [lg_entry_eq]
  generalize (lg_sl ([.ref hMT, .int v1, .int v2, .int v3]) ++ List.replicate (4 - (lg_sl ([.ref hMT, .int v1, .int v2, .int v3])).length) Slot.unset).toArray = ls at hl ⊢
  have hl : lv_has ls 4 [(0, .ref hMT), (1, .int v1), (2, .int v2), (3, .int v3)] := hl
  dsimp only [headSpec]
  unfold MT_setCost at h
  refine lv_iload_n X.1 X.2.1 dX2_setCost_0 rfl (lv_at hl 1 rfl) ?_
  refine lv_if_lt (tgt := 45) X.1 X.2.1 dX2_setCost_1 (by decide) (fun hc => ?_) (fun hc => ?_)
  · replace h := Eq.mp (if_pos hc) h
    exact g_vret X aMC h hP hD hS dX2_setCost_45
  · replace h := Eq.mp (if_neg hc) h
    refine lv_iload_n X.1 X.2.1 dX2_setCost_4 rfl (lv_at hl 1 rfl) ?_
    refine lv_bipush (v := (12 : Int32)) X.1 X.2.1 dX2_setCost_5 (by decide) ?_
    refine lv_icmp_ge (tgt := 45) X.1 X.2.1 dX2_setCost_7 (by decide) (fun hc => ?_) (fun hc => ?_)
    · replace h := Eq.mp (if_pos hc) h
      exact g_vret X aMC h hP hD hS dX2_setCost_45
    · replace h := Eq.mp (if_neg hc) h
      refine lv_iload_n X.1 X.2.1 dX2_setCost_10 rfl (lv_at hl 2 rfl) ?_
      refine lv_if_lt (tgt := 45) X.1 X.2.1 dX2_setCost_11 (by decide) (fun hc => ?_) (fun hc => ?_)
      · replace h := Eq.mp (if_pos hc) h
        exact g_vret X aMC h hP hD hS dX2_setCost_45
      · replace h := Eq.mp (if_neg hc) h
        refine lv_iload_n X.1 X.2.1 dX2_setCost_14 rfl (lv_at hl 2 rfl) ?_
        refine lv_bipush (v := (12 : Int32)) X.1 X.2.1 dX2_setCost_15 (by decide) ?_
        refine lv_icmp_ge (tgt := 45) X.1 X.2.1 dX2_setCost_17 (by decide) (fun hc => ?_) (fun hc => ?_)
        · replace h := Eq.mp (if_pos hc) h
          exact g_vret X aMC h hP hD hS dX2_setCost_45
        · replace h := Eq.mp (if_neg hc) h
          refine lv_aload_n X.1 X.2.1 dX2_setCost_20 rfl (lv_at hl 0 rfl) ?_
          refine g_get X hP 0 2 0 (v := .ref hMC) rfl rfl inX2 (by decide) fl_X2_11 rfl dX2_setCost_21 ?_
          refine lv_iload_n X.1 X.2.1 dX2_setCost_24 rfl (lv_at hl 1 rfl) ?_
          refine lv_iconst (v := (1 : Int32)) X.1 X.2.1 dX2_setCost_25 (by decide) ?_
          refine lv_iadd X.1 X.2.1 dX2_setCost_26 ?_
          refine lv_bipush (v := (13 : Int32)) X.1 X.2.1 dX2_setCost_27 (by decide) ?_
          refine lv_imul X.1 X.2.1 dX2_setCost_29 ?_
          refine lv_iload_n X.1 X.2.1 dX2_setCost_30 rfl (lv_at hl 2 rfl) ?_
          refine lv_iadd X.1 X.2.1 dX2_setCost_31 ?_
          refine lv_iconst (v := (1 : Int32)) X.1 X.2.1 dX2_setCost_32 (by decide) ?_
          refine lv_iadd X.1 X.2.1 dX2_setCost_33 ?_
          refine lv_iload_n X.1 X.2.1 dX2_setCost_34 rfl (lv_at hl 3 rfl) ?_
          refine lv_if_ge (tgt := 43) X.1 X.2.1 dX2_setCost_35 (by decide) (fun hc => ?_) (fun hc => ?_)
          · replace h := Eq.mp (if_pos hc) h
            refine lv_iload_n X.1 X.2.1 dX2_setCost_43 rfl (lv_at hl 3 rfl) ?_
            obtain ⟨hin, h⟩ := h
            refine g_ist X hP hD hS 1 rfl hin dX2_setCost_44 (fun aMC_1 e_aMC_1 H locs hP hD hS => ?_)
            replace h := h aMC_1 e_aMC_1
            replace hP : va_P G.1 gCl [cMT hMT hMC hGL hBL hGB hBB hSK hSN, cI G hMC 169 aMC_1] H := hP
            replace hD : va_D A [cMT hMT hMC hGL hBL hGB hBB hSK hSN, cI G hMC 169 aMC_1] := hD
            exact g_vret X aMC_1 h hP hD hS dX2_setCost_45
          · replace h := Eq.mp (if_neg hc) h
            refine lv_ldc (v := (100000 : Int32)) X.1 X.2.1 X.2.2.2.1 (X.2.2.2.2.1 _ cn_X2_34) dX2_setCost_38 ?_
            refine lv_goto (tgt := 44) X.1 X.2.1 dX2_setCost_40 (by decide) ?_
            obtain ⟨hin, h⟩ := h
            refine g_ist X hP hD hS 1 rfl hin dX2_setCost_44 (fun aMC_2 e_aMC_2 H locs hP hD hS => ?_)
            replace h := h aMC_2 e_aMC_2
            replace hP : va_P G.1 gCl [cMT hMT hMC hGL hBL hGB hBB hSK hSN, cI G hMC 169 aMC_2] H := hP
            replace hD : va_D A [cMT hMT hMC hGL hBL hGB hBB hSK hSN, cI G hMC 169 aMC_2] := hD
            exact g_vret X aMC_2 h hP hD hS dX2_setCost_45
abbrev rm_MT_nextBox : Room := { frames := 0, cells := 0, slots := 0, locals := 0 }
set_option maxHeartbeats 4000000 in
set_option maxRecDepth 100000 in
theorem s_MT_nextBox_128 {p : Program} {l : Launch} {e : Env} {s : State} {m : MethodId} {args : Array Value} {below : List Frame} {meth : Method} {c : Code} {G : gEnv} {A : Nat → Prop} {hMT : Nat} {hMC : Nat} {hGL : Nat} {hBL : Nat} {hGB : Nat} {hBB : Nat} {hSK : Nat} {hSN : Nat} {aMC : Nat → Int32} {aGB : Nat → Int32} {aSN : Nat → Int32} {post : Int32 → (Nat → Int32) → (Nat → Int32) → (Nat → Int32) → (Nat → Int32) → Prop} (X : gX p m meth c cX2_nextBox 8 RX2 (some .int) s args G A)  : ∀ (n : Nat) (aGL : (Nat → Int32)) (aBL : (Nat → Int32)) (aBB : (Nat → Int32)) (aSK : (Nat → Int32)) (v2 : Int32) (v4 : Int32) (v5 : Int32) (v6 : Int32) (H : Heap) (locs : List Loc) (ls : Array Slot), MT_nextBox_128 aMC aGB aSN post n aGL aBL aBB aSK v2 v4 v5 v6 → va_P G.1 gCl [cMT hMT hMC hGL hBL hGB hBB hSK hSN, cI G hMC 169 aMC, cI G hGL 13 aGL, cI G hBL 13 aBL, cI G hGB 13 aGB, cI G hBB 13 aBB, cI G hSK 13 aSK, cZ G hSN 13 aSN] H → va_D A [cMT hMT hMC hGL hBL hGB hBB hSK hSN, cI G hMC 169 aMC, cI G hGL 13 aGL, cI G hBL 13 aBL, cI G hGB 13 aGB, cI G hBB 13 aBB, cI G hSK 13 aSK, cZ G hSN 13 aSN] → va_S A s.heap H locs → lv_has ls 8 [(0, .ref hMT), (2, .int v2), (4, .int v4), (5, .int v5), (6, .int v6)] → W p l e rm_MT_nextBox s m args below meth c H locs 0 0 (MQ below (gQi G (fun (r : Int32) (u : (Nat → Int32) × (Nat → Int32) × (Nat → Int32) × (Nat → Int32)) => post r u.1 u.2.1 u.2.2.1 u.2.2.2) (fun (u : (Nat → Int32) × (Nat → Int32) × (Nat → Int32) × (Nat → Int32)) => [cMT hMT hMC hGL hBL hGB hBB hSK hSN, cI G hMC 169 aMC, cI G hGL 13 u.1, cI G hBL 13 u.2.1, cI G hGB 13 aGB, cI G hBB 13 u.2.2.1, cI G hSK 13 u.2.2.2, cZ G hSN 13 aSN]) A) args s 0 0 A) (F0 m 128 ls []) := by
  intro n
  induction n with
  | zero => intro aGL aBL aBB aSK v2 v4 v5 v6 H locs ls h _ _ _ _; exact h.elim
  | succ n ih =>
    intro aGL aBL aBB aSK v2 v4 v5 v6 H locs ls h hP hD hS hl
    unfold MT_nextBox_128 at h
    refine lv_iload X.1 X.2.1 dX2_nextBox_128 (lv_at hl 4 rfl) ?_
    refine lv_iload_n X.1 X.2.1 dX2_nextBox_130 rfl (lv_at hl 1 rfl) ?_
    refine lv_icmp_gt (tgt := 194) X.1 X.2.1 dX2_nextBox_131 (by decide) (fun hc => ?_) (fun hc => ?_)
    · replace h := Eq.mp (if_pos hc) h
      refine lv_iload X.1 X.2.1 dX2_nextBox_194 (lv_at hl 3 rfl) ?_
      exact g_iret X (aGL, aBL, aBB, aSK) h hP hD hS dX2_nextBox_196
    · replace h := Eq.mp (if_neg hc) h
      refine lv_aload_n X.1 X.2.1 dX2_nextBox_134 rfl (lv_at hl 0 rfl) ?_
      refine g_get X hP 0 2 6 (v := .ref hSN) rfl rfl inX2 (by decide) fl_X2_30 rfl dX2_nextBox_135 ?_
      refine lv_iload X.1 X.2.1 dX2_nextBox_138 (lv_at hl 4 rfl) ?_
      obtain ⟨hin, h⟩ := h
      refine va_zald (D := G.1) X.1 X.2.1 X.k.1 hP 7 2 rfl rfl hin dX2_nextBox_140 ?_
      refine lv_if_eq (tgt := 176) X.1 X.2.1 dX2_nextBox_141 (by decide) (fun hc => ?_) (fun hc => ?_)
      · replace h := Eq.mp (if_pos hc) h
        refine lv_aload_n X.1 X.2.1 dX2_nextBox_176 rfl (lv_at hl 0 rfl) ?_
        refine g_get X hP 0 2 5 (v := .ref hSK) rfl rfl inX2 (by decide) fl_X2_27 rfl dX2_nextBox_177 ?_
        refine lv_iload X.1 X.2.1 dX2_nextBox_180 (lv_at hl 4 rfl) ?_
        refine lv_dup2_11 X.1 X.2.1 dX2_nextBox_182 rfl rfl ?_
        obtain ⟨hin, h⟩ := h
        refine va_iald (D := G.1) X.1 X.2.1 X.k.1 hP 6 0 rfl rfl hin dX2_nextBox_183 ?_
        refine lv_iload X.1 X.2.1 dX2_nextBox_184 (lv_at hl 2 rfl) ?_
        refine lv_isub X.1 X.2.1 dX2_nextBox_186 ?_
        refine lv_topi (fun x_1 e_x_1 => ?_)
        replace h := h x_1 e_x_1
        obtain ⟨hin, h⟩ := h
        refine g_ist X hP hD hS 6 rfl hin dX2_nextBox_187 (fun aSK_2 e_aSK_2 H locs hP hD hS => ?_)
        replace h := h aSK_2 e_aSK_2
        replace hP : va_P G.1 gCl [cMT hMT hMC hGL hBL hGB hBB hSK hSN, cI G hMC 169 aMC, cI G hGL 13 aGL, cI G hBL 13 aBL, cI G hGB 13 aGB, cI G hBB 13 aBB, cI G hSK 13 aSK_2, cZ G hSN 13 aSN] H := hP
        replace hD : va_D A [cMT hMT hMC hGL hBL hGB hBB hSK hSN, cI G hMC 169 aMC, cI G hGL 13 aGL, cI G hBL 13 aBL, cI G hGB 13 aGB, cI G hBB 13 aBB, cI G hSK 13 aSK_2, cZ G hSN 13 aSN] := hD
        refine lv_iinc (v := (v6 + (1 : Int32))) (lv' := [(6, .int (v6 + (1 : Int32))), (0, .ref hMT), (2, .int v2), (4, .int v4), (5, .int v5)]) X.1 X.2.1 dX2_nextBox_188 hl (k := 4) rfl rfl (by decide) rfl (fun ls hl => ?_)
        refine lv_goto (tgt := 128) X.1 X.2.1 dX2_nextBox_191 (by decide) ?_
        exact ih aGL aBL aBB aSK_2 v2 v4 v5 (v6 + (1 : Int32)) _ _ _ h hP hD hS (lv_sub hl [1, 2, 3, 4, 0] rfl)
      · replace h := Eq.mp (if_neg hc) h
        refine lv_aload_n X.1 X.2.1 dX2_nextBox_144 rfl (lv_at hl 0 rfl) ?_
        refine g_get X hP 0 2 1 (v := .ref hGL) rfl rfl inX2 (by decide) fl_X2_15 rfl dX2_nextBox_145 ?_
        refine lv_aload_n X.1 X.2.1 dX2_nextBox_148 rfl (lv_at hl 0 rfl) ?_
        refine g_get X hP 0 2 3 (v := .ref hGB) rfl rfl inX2 (by decide) fl_X2_21 rfl dX2_nextBox_149 ?_
        refine lv_iload X.1 X.2.1 dX2_nextBox_152 (lv_at hl 4 rfl) ?_
        obtain ⟨hin, h⟩ := h
        refine va_iald (D := G.1) X.1 X.2.1 X.k.1 hP 4 0 rfl rfl hin dX2_nextBox_154 ?_
        refine lv_dup2_11 X.1 X.2.1 dX2_nextBox_155 rfl rfl ?_
        obtain ⟨hin, h⟩ := h
        refine va_iald (D := G.1) X.1 X.2.1 X.k.1 hP 2 0 rfl rfl hin dX2_nextBox_156 ?_
        refine lv_iload X.1 X.2.1 dX2_nextBox_157 (lv_at hl 2 rfl) ?_
        refine lv_iadd X.1 X.2.1 dX2_nextBox_159 ?_
        refine lv_topi (fun x_3 e_x_3 => ?_)
        replace h := h x_3 e_x_3
        obtain ⟨hin, h⟩ := h
        refine g_ist X hP hD hS 2 rfl hin dX2_nextBox_160 (fun aGL_4 e_aGL_4 H locs hP hD hS => ?_)
        replace h := h aGL_4 e_aGL_4
        replace hP : va_P G.1 gCl [cMT hMT hMC hGL hBL hGB hBB hSK hSN, cI G hMC 169 aMC, cI G hGL 13 aGL_4, cI G hBL 13 aBL, cI G hGB 13 aGB, cI G hBB 13 aBB, cI G hSK 13 aSK, cZ G hSN 13 aSN] H := hP
        replace hD : va_D A [cMT hMT hMC hGL hBL hGB hBB hSK hSN, cI G hMC 169 aMC, cI G hGL 13 aGL_4, cI G hBL 13 aBL, cI G hGB 13 aGB, cI G hBB 13 aBB, cI G hSK 13 aSK, cZ G hSN 13 aSN] := hD
        refine lv_aload_n X.1 X.2.1 dX2_nextBox_161 rfl (lv_at hl 0 rfl) ?_
        refine g_get X hP 0 2 2 (v := .ref hBL) rfl rfl inX2 (by decide) fl_X2_18 rfl dX2_nextBox_162 ?_
        refine lv_iload X.1 X.2.1 dX2_nextBox_165 (lv_at hl 4 rfl) ?_
        refine lv_dup2_11 X.1 X.2.1 dX2_nextBox_167 rfl rfl ?_
        obtain ⟨hin, h⟩ := h
        refine va_iald (D := G.1) X.1 X.2.1 X.k.1 hP 3 0 rfl rfl hin dX2_nextBox_168 ?_
        refine lv_iload X.1 X.2.1 dX2_nextBox_169 (lv_at hl 2 rfl) ?_
        refine lv_isub X.1 X.2.1 dX2_nextBox_171 ?_
        refine lv_topi (fun x_5 e_x_5 => ?_)
        replace h := h x_5 e_x_5
        obtain ⟨hin, h⟩ := h
        refine g_ist X hP hD hS 3 rfl hin dX2_nextBox_172 (fun aBL_6 e_aBL_6 H locs hP hD hS => ?_)
        replace h := h aBL_6 e_aBL_6
        replace hP : va_P G.1 gCl [cMT hMT hMC hGL hBL hGB hBB hSK hSN, cI G hMC 169 aMC, cI G hGL 13 aGL_4, cI G hBL 13 aBL_6, cI G hGB 13 aGB, cI G hBB 13 aBB, cI G hSK 13 aSK, cZ G hSN 13 aSN] H := hP
        replace hD : va_D A [cMT hMT hMC hGL hBL hGB hBB hSK hSN, cI G hMC 169 aMC, cI G hGL 13 aGL_4, cI G hBL 13 aBL_6, cI G hGB 13 aGB, cI G hBB 13 aBB, cI G hSK 13 aSK, cZ G hSN 13 aSN] := hD
        refine lv_goto (tgt := 188) X.1 X.2.1 dX2_nextBox_173 (by decide) ?_
        refine lv_iinc (v := (v6 + (1 : Int32))) (lv' := [(6, .int (v6 + (1 : Int32))), (0, .ref hMT), (2, .int v2), (4, .int v4), (5, .int v5)]) X.1 X.2.1 dX2_nextBox_188 hl (k := 4) rfl rfl (by decide) rfl (fun ls hl => ?_)
        refine lv_goto (tgt := 128) X.1 X.2.1 dX2_nextBox_191 (by decide) ?_
        exact ih aGL_4 aBL_6 aBB aSK v2 v4 v5 (v6 + (1 : Int32)) _ _ _ h hP hD hS (lv_sub hl [1, 2, 3, 4, 0] rfl)
set_option maxHeartbeats 4000000 in
set_option maxRecDepth 100000 in
theorem s_MT_nextBox_94 {p : Program} {l : Launch} {e : Env} {s : State} {m : MethodId} {args : Array Value} {below : List Frame} {meth : Method} {c : Code} {G : gEnv} {A : Nat → Prop} {hMT : Nat} {hMC : Nat} {hGL : Nat} {hBL : Nat} {hGB : Nat} {hBB : Nat} {hSK : Nat} {hSN : Nat} {aMC : Nat → Int32} {aGB : Nat → Int32} {aSN : Nat → Int32} {k17 : (Nat → Int32) → (Nat → Int32) → (Nat → Int32) → (Nat → Int32) → Int32 → Int32 → Int32 → Int32 → Int32 → Int32 → Prop} {post : Int32 → (Nat → Int32) → (Nat → Int32) → (Nat → Int32) → (Nat → Int32) → Prop} (X : gX p m meth c cX2_nextBox 8 RX2 (some .int) s args G A) (hk17 : ∀ (aGL' : (Nat → Int32)) (aBL' : (Nat → Int32)) (aBB' : (Nat → Int32)) (aSK' : (Nat → Int32)) (v1' : Int32) (v2' : Int32) (v3' : Int32) (v4' : Int32) (v5' : Int32) (v6' : Int32) (H : Heap) (locs : List Loc) (ls : Array Slot), k17 aGL' aBL' aBB' aSK' v1' v2' v3' v4' v5' v6' → va_P G.1 gCl [cMT hMT hMC hGL hBL hGB hBB hSK hSN, cI G hMC 169 aMC, cI G hGL 13 aGL', cI G hBL 13 aBL', cI G hGB 13 aGB, cI G hBB 13 aBB', cI G hSK 13 aSK', cZ G hSN 13 aSN] H → va_D A [cMT hMT hMC hGL hBL hGB hBB hSK hSN, cI G hMC 169 aMC, cI G hGL 13 aGL', cI G hBL 13 aBL', cI G hGB 13 aGB, cI G hBB 13 aBB', cI G hSK 13 aSK', cZ G hSN 13 aSN] → va_S A s.heap H locs → lv_has ls 8 [(0, .ref hMT), (1, .int v1'), (2, .int v2'), (3, .int v3'), (4, .int v4'), (5, .int v5'), (6, .int v6')] → W p l e rm_MT_nextBox s m args below meth c H locs 0 0 (MQ below (gQi G (fun (r : Int32) (u : (Nat → Int32) × (Nat → Int32) × (Nat → Int32) × (Nat → Int32)) => post r u.1 u.2.1 u.2.2.1 u.2.2.2) (fun (u : (Nat → Int32) × (Nat → Int32) × (Nat → Int32) × (Nat → Int32)) => [cMT hMT hMC hGL hBL hGB hBB hSK hSN, cI G hMC 169 aMC, cI G hGL 13 u.1, cI G hBL 13 u.2.1, cI G hGB 13 aGB, cI G hBB 13 u.2.2.1, cI G hSK 13 u.2.2.2, cZ G hSN 13 aSN]) A) args s 0 0 A) (F0 m 17 ls [])) : ∀ (aGL : (Nat → Int32)) (aBL : (Nat → Int32)) (aBB : (Nat → Int32)) (aSK : (Nat → Int32)) (v1 : Int32) (v2 : Int32) (v3 : Int32) (v4 : Int32) (v5 : Int32) (v6 : Int32) (H : Heap) (locs : List Loc) (ls : Array Slot), MT_nextBox_94 aMC aGB aSN k17 post aGL aBL aBB aSK v1 v2 v3 v4 v5 v6 → va_P G.1 gCl [cMT hMT hMC hGL hBL hGB hBB hSK hSN, cI G hMC 169 aMC, cI G hGL 13 aGL, cI G hBL 13 aBL, cI G hGB 13 aGB, cI G hBB 13 aBB, cI G hSK 13 aSK, cZ G hSN 13 aSN] H → va_D A [cMT hMT hMC hGL hBL hGB hBB hSK hSN, cI G hMC 169 aMC, cI G hGL 13 aGL, cI G hBL 13 aBL, cI G hGB 13 aGB, cI G hBB 13 aBB, cI G hSK 13 aSK, cZ G hSN 13 aSN] → va_S A s.heap H locs → lv_has ls 8 [(0, .ref hMT), (1, .int v1), (2, .int v2), (3, .int v3), (4, .int v4), (5, .int v5), (6, .int v6)] → W p l e rm_MT_nextBox s m args below meth c H locs 0 0 (MQ below (gQi G (fun (r : Int32) (u : (Nat → Int32) × (Nat → Int32) × (Nat → Int32) × (Nat → Int32)) => post r u.1 u.2.1 u.2.2.1 u.2.2.2) (fun (u : (Nat → Int32) × (Nat → Int32) × (Nat → Int32) × (Nat → Int32)) => [cMT hMT hMC hGL hBL hGB hBB hSK hSN, cI G hMC 169 aMC, cI G hGL 13 u.1, cI G hBL 13 u.2.1, cI G hGB 13 aGB, cI G hBB 13 u.2.2.1, cI G hSK 13 u.2.2.2, cZ G hSN 13 aSN]) A) args s 0 0 A) (F0 m 94 ls []) := by
  intro aGL aBL aBB aSK v1 v2 v3 v4 v5 v6 H locs ls h hP hD hS hl
  unfold MT_nextBox_94 at h
  refine lv_aload_n X.1 X.2.1 dX2_nextBox_94 rfl (lv_at hl 0 rfl) ?_
  refine g_get X hP 0 2 5 (v := .ref hSK) rfl rfl inX2 (by decide) fl_X2_27 rfl dX2_nextBox_95 ?_
  refine lv_iload X.1 X.2.1 dX2_nextBox_98 (lv_at hl 6 rfl) ?_
  obtain ⟨hin, h⟩ := h
  refine va_iald (D := G.1) X.1 X.2.1 X.k.1 hP 6 0 rfl rfl hin dX2_nextBox_100 ?_
  refine lv_iload X.1 X.2.1 dX2_nextBox_101 (lv_at hl 4 rfl) ?_
  refine lv_icmp_ge (tgt := 119) X.1 X.2.1 dX2_nextBox_103 (by decide) (fun hc => ?_) (fun hc => ?_)
  · replace h := Eq.mp (if_pos hc) h
    refine lv_iinc (v := (v6 + (1 : Int32))) (lv' := [(6, .int (v6 + (1 : Int32))), (0, .ref hMT), (1, .int v1), (2, .int v2), (3, .int v3), (4, .int v4), (5, .int v5)]) X.1 X.2.1 dX2_nextBox_119 hl (k := 6) rfl rfl (by decide) rfl (fun ls hl => ?_)
    refine lv_goto (tgt := 17) X.1 X.2.1 dX2_nextBox_122 (by decide) ?_
    exact hk17 aGL aBL aBB aSK v1 v2 v3 v4 v5 (v6 + (1 : Int32)) _ _ _ h hP hD hS (lv_sub hl [1, 2, 3, 4, 5, 6, 0] rfl)
  · replace h := Eq.mp (if_neg hc) h
    refine lv_aload_n X.1 X.2.1 dX2_nextBox_106 rfl (lv_at hl 0 rfl) ?_
    refine g_get X hP 0 2 5 (v := .ref hSK) rfl rfl inX2 (by decide) fl_X2_27 rfl dX2_nextBox_107 ?_
    refine lv_iload X.1 X.2.1 dX2_nextBox_110 (lv_at hl 6 rfl) ?_
    obtain ⟨hin, h⟩ := h
    refine va_iald (D := G.1) X.1 X.2.1 X.k.1 hP 6 0 rfl rfl hin dX2_nextBox_112 ?_
    refine lv_topi (fun v4_1 e_v4_1 => ?_)
    replace h := h v4_1 e_v4_1
    refine lv_istore (lv' := [(4, .int v4_1), (0, .ref hMT), (1, .int v1), (2, .int v2), (3, .int v3), (5, .int v5), (6, .int v6)]) X.1 X.2.1 dX2_nextBox_113 hl (by decide) rfl (fun ls hl => ?_)
    refine lv_iload X.1 X.2.1 dX2_nextBox_115 (lv_at hl 6 rfl) ?_
    refine lv_istore (lv' := [(5, .int v6), (4, .int v4_1), (0, .ref hMT), (1, .int v1), (2, .int v2), (3, .int v3), (6, .int v6)]) X.1 X.2.1 dX2_nextBox_117 hl (by decide) rfl (fun ls hl => ?_)
    refine lv_iinc (v := (v6 + (1 : Int32))) (lv' := [(6, .int (v6 + (1 : Int32))), (5, .int v6), (4, .int v4_1), (0, .ref hMT), (1, .int v1), (2, .int v2), (3, .int v3)]) X.1 X.2.1 dX2_nextBox_119 hl (k := 6) rfl rfl (by decide) rfl (fun ls hl => ?_)
    refine lv_goto (tgt := 17) X.1 X.2.1 dX2_nextBox_122 (by decide) ?_
    exact hk17 aGL aBL aBB aSK v1 v2 v3 v4_1 v6 (v6 + (1 : Int32)) _ _ _ h hP hD hS (lv_sub hl [3, 4, 5, 6, 2, 1, 0] rfl)
set_option maxHeartbeats 4000000 in
set_option maxRecDepth 100000 in
theorem s_MT_nextBox_17 {p : Program} {l : Launch} {e : Env} {s : State} {m : MethodId} {args : Array Value} {below : List Frame} {meth : Method} {c : Code} {G : gEnv} {A : Nat → Prop} {hMT : Nat} {hMC : Nat} {hGL : Nat} {hBL : Nat} {hGB : Nat} {hBB : Nat} {hSK : Nat} {hSN : Nat} {aMC : Nat → Int32} {aGB : Nat → Int32} {aSN : Nat → Int32} {post : Int32 → (Nat → Int32) → (Nat → Int32) → (Nat → Int32) → (Nat → Int32) → Prop} (X : gX p m meth c cX2_nextBox 8 RX2 (some .int) s args G A)  : ∀ (n : Nat) (aGL : (Nat → Int32)) (aBL : (Nat → Int32)) (aBB : (Nat → Int32)) (aSK : (Nat → Int32)) (v1 : Int32) (v2 : Int32) (v3 : Int32) (v4 : Int32) (v5 : Int32) (v6 : Int32) (H : Heap) (locs : List Loc) (ls : Array Slot), MT_nextBox_17 aMC aGB aSN post n aGL aBL aBB aSK v1 v2 v3 v4 v5 v6 → va_P G.1 gCl [cMT hMT hMC hGL hBL hGB hBB hSK hSN, cI G hMC 169 aMC, cI G hGL 13 aGL, cI G hBL 13 aBL, cI G hGB 13 aGB, cI G hBB 13 aBB, cI G hSK 13 aSK, cZ G hSN 13 aSN] H → va_D A [cMT hMT hMC hGL hBL hGB hBB hSK hSN, cI G hMC 169 aMC, cI G hGL 13 aGL, cI G hBL 13 aBL, cI G hGB 13 aGB, cI G hBB 13 aBB, cI G hSK 13 aSK, cZ G hSN 13 aSN] → va_S A s.heap H locs → lv_has ls 8 [(0, .ref hMT), (1, .int v1), (2, .int v2), (3, .int v3), (4, .int v4), (5, .int v5), (6, .int v6)] → W p l e rm_MT_nextBox s m args below meth c H locs 0 0 (MQ below (gQi G (fun (r : Int32) (u : (Nat → Int32) × (Nat → Int32) × (Nat → Int32) × (Nat → Int32)) => post r u.1 u.2.1 u.2.2.1 u.2.2.2) (fun (u : (Nat → Int32) × (Nat → Int32) × (Nat → Int32) × (Nat → Int32)) => [cMT hMT hMC hGL hBL hGB hBB hSK hSN, cI G hMC 169 aMC, cI G hGL 13 u.1, cI G hBL 13 u.2.1, cI G hGB 13 aGB, cI G hBB 13 u.2.2.1, cI G hSK 13 u.2.2.2, cZ G hSN 13 aSN]) A) args s 0 0 A) (F0 m 17 ls []) := by
  intro n
  induction n with
  | zero => intro aGL aBL aBB aSK v1 v2 v3 v4 v5 v6 H locs ls h _ _ _ _; exact h.elim
  | succ n ih =>
    intro aGL aBL aBB aSK v1 v2 v3 v4 v5 v6 H locs ls h hP hD hS hl
    unfold MT_nextBox_17 at h
    refine lv_iload X.1 X.2.1 dX2_nextBox_17 (lv_at hl 6 rfl) ?_
    refine lv_iload_n X.1 X.2.1 dX2_nextBox_19 rfl (lv_at hl 2 rfl) ?_
    refine lv_icmp_gt (tgt := 125) X.1 X.2.1 dX2_nextBox_20 (by decide) (fun hc => ?_) (fun hc => ?_)
    · replace h := Eq.mp (if_pos hc) h
      refine lv_iconst (v := (0 : Int32)) X.1 X.2.1 dX2_nextBox_125 (by decide) ?_
      refine lv_istore (lv' := [(6, .int (0 : Int32)), (0, .ref hMT), (1, .int v1), (2, .int v2), (3, .int v3), (4, .int v4), (5, .int v5)]) X.1 X.2.1 dX2_nextBox_126 hl (by decide) rfl (fun ls hl => ?_)
      obtain ⟨n', h⟩ := h
      exact s_MT_nextBox_128 X  n' aGL aBL aBB aSK v2 v4 v5 (0 : Int32) _ _ _ h hP hD hS (lv_sub hl [1, 3, 5, 6, 0] rfl)
    · replace h := Eq.mp (if_neg hc) h
      refine lv_aload_n X.1 X.2.1 dX2_nextBox_23 rfl (lv_at hl 0 rfl) ?_
      refine g_get X hP 0 2 6 (v := .ref hSN) rfl rfl inX2 (by decide) fl_X2_30 rfl dX2_nextBox_24 ?_
      refine lv_iload X.1 X.2.1 dX2_nextBox_27 (lv_at hl 6 rfl) ?_
      obtain ⟨hin, h⟩ := h
      refine va_zald (D := G.1) X.1 X.2.1 X.k.1 hP 7 2 rfl rfl hin dX2_nextBox_29 ?_
      refine lv_if_eq (tgt := 36) X.1 X.2.1 dX2_nextBox_30 (by decide) (fun hc => ?_) (fun hc => ?_)
      · replace h := Eq.mp (if_pos hc) h
        refine lv_aload_n X.1 X.2.1 dX2_nextBox_36 rfl (lv_at hl 0 rfl) ?_
        refine g_get X hP 0 2 0 (v := .ref hMC) rfl rfl inX2 (by decide) fl_X2_11 rfl dX2_nextBox_37 ?_
        refine lv_iload_n X.1 X.2.1 dX2_nextBox_40 rfl (lv_at hl 3 rfl) ?_
        refine lv_bipush (v := (13 : Int32)) X.1 X.2.1 dX2_nextBox_41 (by decide) ?_
        refine lv_imul X.1 X.2.1 dX2_nextBox_43 ?_
        refine lv_iload X.1 X.2.1 dX2_nextBox_44 (lv_at hl 6 rfl) ?_
        refine lv_iadd X.1 X.2.1 dX2_nextBox_46 ?_
        obtain ⟨hin, h⟩ := h
        refine va_iald (D := G.1) X.1 X.2.1 X.k.1 hP 1 0 rfl rfl hin dX2_nextBox_47 ?_
        refine lv_aload_n X.1 X.2.1 dX2_nextBox_48 rfl (lv_at hl 0 rfl) ?_
        refine g_get X hP 0 2 1 (v := .ref hGL) rfl rfl inX2 (by decide) fl_X2_15 rfl dX2_nextBox_49 ?_
        refine lv_iload_n X.1 X.2.1 dX2_nextBox_52 rfl (lv_at hl 3 rfl) ?_
        obtain ⟨hin, h⟩ := h
        refine va_iald (D := G.1) X.1 X.2.1 X.k.1 hP 2 0 rfl rfl hin dX2_nextBox_53 ?_
        refine lv_isub X.1 X.2.1 dX2_nextBox_54 ?_
        refine lv_aload_n X.1 X.2.1 dX2_nextBox_55 rfl (lv_at hl 0 rfl) ?_
        refine g_get X hP 0 2 2 (v := .ref hBL) rfl rfl inX2 (by decide) fl_X2_18 rfl dX2_nextBox_56 ?_
        refine lv_iload X.1 X.2.1 dX2_nextBox_59 (lv_at hl 6 rfl) ?_
        obtain ⟨hin, h⟩ := h
        refine va_iald (D := G.1) X.1 X.2.1 X.k.1 hP 3 0 rfl rfl hin dX2_nextBox_61 ?_
        refine lv_isub X.1 X.2.1 dX2_nextBox_62 ?_
        refine lv_topi (fun v7_1 e_v7_1 => ?_)
        replace h := h v7_1 e_v7_1
        refine lv_istore (lv' := [(7, .int v7_1), (0, .ref hMT), (1, .int v1), (2, .int v2), (3, .int v3), (4, .int v4), (5, .int v5), (6, .int v6)]) X.1 X.2.1 dX2_nextBox_63 hl (by decide) rfl (fun ls hl => ?_)
        refine lv_iload X.1 X.2.1 dX2_nextBox_65 (lv_at hl 0 rfl) ?_
        refine lv_aload_n X.1 X.2.1 dX2_nextBox_67 rfl (lv_at hl 1 rfl) ?_
        refine g_get X hP 0 2 5 (v := .ref hSK) rfl rfl inX2 (by decide) fl_X2_27 rfl dX2_nextBox_68 ?_
        refine lv_iload X.1 X.2.1 dX2_nextBox_71 (lv_at hl 7 rfl) ?_
        obtain ⟨hin, h⟩ := h
        refine va_iald (D := G.1) X.1 X.2.1 X.k.1 hP 6 0 rfl rfl hin dX2_nextBox_73 ?_
        refine lv_icmp_ge (tgt := 94) X.1 X.2.1 dX2_nextBox_74 (by decide) (fun hc => ?_) (fun hc => ?_)
        · replace h := Eq.mp (if_pos hc) h
          exact s_MT_nextBox_94 X (fun aGL' aBL' aBB' aSK' v1' v2' v3' v4' v5' v6' H' locs' ls' h' hP' hD' hS' hl' => ih aGL' aBL' aBB' aSK' v1' v2' v3' v4' v5' v6' H' locs' ls' h' hP' hD' hS' hl') aGL aBL aBB aSK v1 v2 v3 v4 v5 v6 _ _ _ h hP hD hS (lv_sub hl [1, 2, 3, 4, 5, 6, 7] rfl)
        · replace h := Eq.mp (if_neg hc) h
          refine lv_aload_n X.1 X.2.1 dX2_nextBox_77 rfl (lv_at hl 1 rfl) ?_
          refine g_get X hP 0 2 5 (v := .ref hSK) rfl rfl inX2 (by decide) fl_X2_27 rfl dX2_nextBox_78 ?_
          refine lv_iload X.1 X.2.1 dX2_nextBox_81 (lv_at hl 7 rfl) ?_
          refine lv_iload X.1 X.2.1 dX2_nextBox_83 (lv_at hl 0 rfl) ?_
          obtain ⟨hin, h⟩ := h
          refine g_ist X hP hD hS 6 rfl hin dX2_nextBox_85 (fun aSK_2 e_aSK_2 H locs hP hD hS => ?_)
          replace h := h aSK_2 e_aSK_2
          replace hP : va_P G.1 gCl [cMT hMT hMC hGL hBL hGB hBB hSK hSN, cI G hMC 169 aMC, cI G hGL 13 aGL, cI G hBL 13 aBL, cI G hGB 13 aGB, cI G hBB 13 aBB, cI G hSK 13 aSK_2, cZ G hSN 13 aSN] H := hP
          replace hD : va_D A [cMT hMT hMC hGL hBL hGB hBB hSK hSN, cI G hMC 169 aMC, cI G hGL 13 aGL, cI G hBL 13 aBL, cI G hGB 13 aGB, cI G hBB 13 aBB, cI G hSK 13 aSK_2, cZ G hSN 13 aSN] := hD
          refine lv_aload_n X.1 X.2.1 dX2_nextBox_86 rfl (lv_at hl 1 rfl) ?_
          refine g_get X hP 0 2 4 (v := .ref hBB) rfl rfl inX2 (by decide) fl_X2_24 rfl dX2_nextBox_87 ?_
          refine lv_iload X.1 X.2.1 dX2_nextBox_90 (lv_at hl 7 rfl) ?_
          refine lv_iload_n X.1 X.2.1 dX2_nextBox_92 rfl (lv_at hl 2 rfl) ?_
          obtain ⟨hin, h⟩ := h
          refine g_ist X hP hD hS 5 rfl hin dX2_nextBox_93 (fun aBB_3 e_aBB_3 H locs hP hD hS => ?_)
          replace h := h aBB_3 e_aBB_3
          replace hP : va_P G.1 gCl [cMT hMT hMC hGL hBL hGB hBB hSK hSN, cI G hMC 169 aMC, cI G hGL 13 aGL, cI G hBL 13 aBL, cI G hGB 13 aGB, cI G hBB 13 aBB_3, cI G hSK 13 aSK_2, cZ G hSN 13 aSN] H := hP
          replace hD : va_D A [cMT hMT hMC hGL hBL hGB hBB hSK hSN, cI G hMC 169 aMC, cI G hGL 13 aGL, cI G hBL 13 aBL, cI G hGB 13 aGB, cI G hBB 13 aBB_3, cI G hSK 13 aSK_2, cZ G hSN 13 aSN] := hD
          exact s_MT_nextBox_94 X (fun aGL' aBL' aBB' aSK' v1' v2' v3' v4' v5' v6' H' locs' ls' h' hP' hD' hS' hl' => ih aGL' aBL' aBB' aSK' v1' v2' v3' v4' v5' v6' H' locs' ls' h' hP' hD' hS' hl') aGL aBL aBB_3 aSK_2 v1 v2 v3 v4 v5 v6 _ _ _ h hP hD hS (lv_sub hl [1, 2, 3, 4, 5, 6, 7] rfl)
      · replace h := Eq.mp (if_neg hc) h
        refine lv_goto (tgt := 119) X.1 X.2.1 dX2_nextBox_33 (by decide) ?_
        refine lv_iinc (v := (v6 + (1 : Int32))) (lv' := [(6, .int (v6 + (1 : Int32))), (0, .ref hMT), (1, .int v1), (2, .int v2), (3, .int v3), (4, .int v4), (5, .int v5)]) X.1 X.2.1 dX2_nextBox_119 hl (k := 6) rfl rfl (by decide) rfl (fun ls hl => ?_)
        refine lv_goto (tgt := 17) X.1 X.2.1 dX2_nextBox_122 (by decide) ?_
        exact ih aGL aBL aBB aSK v1 v2 v3 v4 v5 (v6 + (1 : Int32)) _ _ _ h hP hD hS (lv_sub hl [1, 2, 3, 4, 5, 6, 0] rfl)
set_option maxHeartbeats 4000000 in
set_option maxRecDepth 100000 in
theorem c_MT_nextBox (l : Launch) (G : gEnv) (hMT : Nat) (hMC : Nat) (hGL : Nat) (hBL : Nat) (hGB : Nat) (hBB : Nat) (hSK : Nat) (hSN : Nat) (aMC : Nat → Int32) (aGL : Nat → Int32) (aBL : Nat → Int32) (aGB : Nat → Int32) (aBB : Nat → Int32) (aSK : Nat → Int32) (aSN : Nat → Int32) (v1 : Int32) (v2 : Int32) (post : Int32 → (Nat → Int32) → (Nat → Int32) → (Nat → Int32) → (Nat → Int32) → Prop) (h : MT_nextBox aMC aGB aSN aGL aBL aBB aSK v1 v2 post) (sz : Nat) : Met l yX2_nextBox (Cond.code yX2_nextBox cX2_nextBox 8 (some .int) :: wAll) (rm_MT_nextBox) (gPc G [.ref hMT, .int v1, .int v2] [cMT hMT hMC hGL hBL hGB hBB hSK hSN, cI G hMC 169 aMC, cI G hGL 13 aGL, cI G hBL 13 aBL, cI G hGB 13 aGB, cI G hBB 13 aBB, cI G hSK 13 aSK, cZ G hSN 13 aSN] sz) (gQi G (fun (r : Int32) (u : (Nat → Int32) × (Nat → Int32) × (Nat → Int32) × (Nat → Int32)) => post r u.1 u.2.1 u.2.2.1 u.2.2.2) (fun (u : (Nat → Int32) × (Nat → Int32) × (Nat → Int32) × (Nat → Int32)) => [cMT hMT hMC hGL hBL hGB hBB hSK hSN, cI G hMC 169 aMC, cI G hGL 13 u.1, cI G hBL 13 u.2.1, cI G hGB 13 aGB, cI G hBB 13 u.2.2.1, cI G hSK 13 u.2.2.2, cZ G hSN 13 aSN]) (va_A [cMT hMT hMC hGL hBL hGB hBB hSK hSN, cI G hMC 169 aMC, cI G hGL 13 aGL, cI G hBL 13 aBL, cI G hGB 13 aGB, cI G hBB 13 aBB, cI G hSK 13 aSK, cZ G hSN 13 aSN] sz)) 0 0 (va_A [cMT hMT hMC hGL hBL hGB hBB hSK hSN, cI G hMC 169 aMC, cI G hGL 13 aGL, cI G hBL 13 aBL, cI G hGB 13 aGB, cI G hBB 13 aBB, cI G hSK 13 aSK, cZ G hSN 13 aSN] sz) := by
  refine Met.ofW (cc := cX2_nextBox) (maxL := 8) (ret := (some .int)) (by decide) rfl ?_
  intro p e s m args below meth c s₁ B hml hv
  obtain ⟨rfl, hsz, hP, hK, hD0⟩ := hv
  subst hsz
  have X := gX.ofB (ws := [cMT hMT hMC hGL hBL hGB hBB hSK hSN, cI G hMC 169 aMC, cI G hGL 13 aGL, cI G hBL 13 aBL, cI G hGB 13 aGB, cI G hBB 13 aBB, cI G hSK 13 aSK, cZ G hSN 13 aSN]) B hml hK hD0
  have hD := hD0.self (sz := s.heap.size)
  generalize hAe : va_A [cMT hMT hMC hGL hBL hGB hBB hSK hSN, cI G hMC 169 aMC, cI G hGL 13 aGL, cI G hBL 13 aBL, cI G hGB 13 aGB, cI G hBB 13 aBB, cI G hSK 13 aSK, cZ G hSN 13 aSN] s.heap.size = A at X hD ⊢
  have hS : va_S A s.heap s.heap [] := va_S.rf
  have hl := lv_entry ([.ref hMT, .int v1, .int v2]) (n := 8) (Nat.le_of_ble_eq_true rfl)
  rw [lg_entry_eq]
  generalize (lg_sl ([.ref hMT, .int v1, .int v2]) ++ List.replicate (8 - (lg_sl ([.ref hMT, .int v1, .int v2])).length) Slot.unset).toArray = ls at hl ⊢
  have hl : lv_has ls 8 [(0, .ref hMT), (1, .int v1), (2, .int v2)] := hl
  dsimp only [headSpec]
  unfold MT_nextBox at h
  refine lv_aload_n X.1 X.2.1 dX2_nextBox_0 rfl (lv_at hl 0 rfl) ?_
  refine g_get X hP 0 2 3 (v := .ref hGB) rfl rfl inX2 (by decide) fl_X2_21 rfl dX2_nextBox_1 ?_
  refine lv_iload_n X.1 X.2.1 dX2_nextBox_4 rfl (lv_at hl 1 rfl) ?_
  obtain ⟨hin, h⟩ := h
  refine va_iald (D := G.1) X.1 X.2.1 X.k.1 hP 4 0 rfl rfl hin dX2_nextBox_5 ?_
  refine lv_topi (fun v3_1 e_v3_1 => ?_)
  replace h := h v3_1 e_v3_1
  refine lv_istore_n (lv' := [(3, .int v3_1), (0, .ref hMT), (1, .int v1), (2, .int v2)]) X.1 X.2.1 dX2_nextBox_6 rfl hl (by decide) rfl (fun ls hl => ?_)
  refine lv_ldc (v := (1000000000 : Int32)) X.1 X.2.1 X.2.2.2.1 (X.2.2.2.2.1 _ cn_X2_45) dX2_nextBox_7 ?_
  refine lv_istore (lv' := [(4, .int (1000000000 : Int32)), (3, .int v3_1), (0, .ref hMT), (1, .int v1), (2, .int v2)]) X.1 X.2.1 dX2_nextBox_9 hl (by decide) rfl (fun ls hl => ?_)
  refine lv_iconst (v := (0 : Int32)) X.1 X.2.1 dX2_nextBox_11 (by decide) ?_
  refine lv_istore (lv' := [(5, .int (0 : Int32)), (4, .int (1000000000 : Int32)), (3, .int v3_1), (0, .ref hMT), (1, .int v1), (2, .int v2)]) X.1 X.2.1 dX2_nextBox_12 hl (by decide) rfl (fun ls hl => ?_)
  refine lv_iconst (v := (1 : Int32)) X.1 X.2.1 dX2_nextBox_14 (by decide) ?_
  refine lv_istore (lv' := [(6, .int (1 : Int32)), (5, .int (0 : Int32)), (4, .int (1000000000 : Int32)), (3, .int v3_1), (0, .ref hMT), (1, .int v1), (2, .int v2)]) X.1 X.2.1 dX2_nextBox_15 hl (by decide) rfl (fun ls hl => ?_)
  obtain ⟨n', h⟩ := h
  exact s_MT_nextBox_17 X  n' aGL aBL aBB aSK v1 v2 v3_1 (1000000000 : Int32) (0 : Int32) (1 : Int32) _ _ _ h hP hD hS (lv_sub hl [4, 5, 6, 3, 2, 1, 0] rfl)
abbrev rm_MT_giveBoxTo : Room := { frames := 1, cells := 0, slots := 0, locals := 27 }
set_option maxHeartbeats 4000000 in
set_option maxRecDepth 100000 in
theorem s_MT_giveBoxTo_81 {p : Program} {l : Launch} {e : Env} {s : State} {m : MethodId} {args : Array Value} {below : List Frame} {meth : Method} {c : Code} {G : gEnv} {A : Nat → Prop} {hMT : Nat} {hMC : Nat} {hGL : Nat} {hBL : Nat} {hGB : Nat} {hBB : Nat} {hSK : Nat} {hSN : Nat} {aMC : Nat → Int32} {post : (Nat → Int32) → (Nat → Int32) → (Nat → Int32) → (Nat → Int32) → (Nat → Int32) → (Nat → Int32) → Prop} (X : gX p m meth c cX2_giveBoxTo 6 RX2 none s args G A)  : ∀ (n : Nat) (aGL : (Nat → Int32)) (aBL : (Nat → Int32)) (aGB : (Nat → Int32)) (aBB : (Nat → Int32)) (aSK : (Nat → Int32)) (aSN : (Nat → Int32)) (v2 : Int32) (v3 : Int32) (v4 : Int32) (H : Heap) (locs : List Loc) (ls : Array Slot), MT_giveBoxTo_81 aMC post n aGL aBL aGB aBB aSK aSN v2 v3 v4 → va_P G.1 gCl [cMT hMT hMC hGL hBL hGB hBB hSK hSN, cI G hMC 169 aMC, cI G hGL 13 aGL, cI G hBL 13 aBL, cI G hGB 13 aGB, cI G hBB 13 aBB, cI G hSK 13 aSK, cZ G hSN 13 aSN] H → va_D A [cMT hMT hMC hGL hBL hGB hBB hSK hSN, cI G hMC 169 aMC, cI G hGL 13 aGL, cI G hBL 13 aBL, cI G hGB 13 aGB, cI G hBB 13 aBB, cI G hSK 13 aSK, cZ G hSN 13 aSN] → va_S A s.heap H locs → lv_has ls 6 [(0, .ref hMT), (2, .int v2), (3, .int v3), (4, .int v4)] → W p l e rm_MT_giveBoxTo s m args below meth c H locs 0 0 (MQ below (gQv G (fun (u : (Nat → Int32) × (Nat → Int32) × (Nat → Int32) × (Nat → Int32) × (Nat → Int32) × (Nat → Int32)) => post u.1 u.2.1 u.2.2.1 u.2.2.2.1 u.2.2.2.2.1 u.2.2.2.2.2) (fun (u : (Nat → Int32) × (Nat → Int32) × (Nat → Int32) × (Nat → Int32) × (Nat → Int32) × (Nat → Int32)) => [cMT hMT hMC hGL hBL hGB hBB hSK hSN, cI G hMC 169 aMC, cI G hGL 13 u.1, cI G hBL 13 u.2.1, cI G hGB 13 u.2.2.1, cI G hBB 13 u.2.2.2.1, cI G hSK 13 u.2.2.2.2.1, cZ G hSN 13 u.2.2.2.2.2]) A) args s 0 0 A) (F0 m 81 ls []) := by
  intro n
  induction n with
  | zero => intro aGL aBL aGB aBB aSK aSN v2 v3 v4 H locs ls h _ _ _ _; exact h.elim
  | succ n ih =>
    intro aGL aBL aGB aBB aSK aSN v2 v3 v4 H locs ls h hP hD hS hl
    unfold MT_giveBoxTo_81 at h
    refine lv_iload X.1 X.2.1 dX2_giveBoxTo_81 (lv_at hl 3 rfl) ?_
    refine lv_iload_n X.1 X.2.1 dX2_giveBoxTo_83 rfl (lv_at hl 1 rfl) ?_
    refine lv_icmp_gt (tgt := 121) X.1 X.2.1 dX2_giveBoxTo_84 (by decide) (fun hc => ?_) (fun hc => ?_)
    · replace h := Eq.mp (if_pos hc) h
      exact g_vret X (aGL, aBL, aGB, aBB, aSK, aSN) h hP hD hS dX2_giveBoxTo_121
    · replace h := Eq.mp (if_neg hc) h
      refine lv_iload_n X.1 X.2.1 dX2_giveBoxTo_87 rfl (lv_at hl 2 rfl) ?_
      refine lv_if_eq (tgt := 121) X.1 X.2.1 dX2_giveBoxTo_88 (by decide) (fun hc => ?_) (fun hc => ?_)
      · replace h := Eq.mp (if_pos hc) h
        exact g_vret X (aGL, aBL, aGB, aBB, aSK, aSN) h hP hD hS dX2_giveBoxTo_121
      · replace h := Eq.mp (if_neg hc) h
        refine lv_aload_n X.1 X.2.1 dX2_giveBoxTo_91 rfl (lv_at hl 0 rfl) ?_
        refine g_get X hP 0 2 4 (v := .ref hBB) rfl rfl inX2 (by decide) fl_X2_24 rfl dX2_giveBoxTo_92 ?_
        refine lv_iload_n X.1 X.2.1 dX2_giveBoxTo_95 rfl (lv_at hl 2 rfl) ?_
        obtain ⟨hin, h⟩ := h
        refine va_iald (D := G.1) X.1 X.2.1 X.k.1 hP 5 0 rfl rfl hin dX2_giveBoxTo_96 ?_
        refine lv_topi (fun v5_1 e_v5_1 => ?_)
        replace h := h v5_1 e_v5_1
        refine lv_istore (lv' := [(5, .int v5_1), (0, .ref hMT), (2, .int v2), (3, .int v3), (4, .int v4)]) X.1 X.2.1 dX2_giveBoxTo_97 hl (by decide) rfl (fun ls hl => ?_)
        refine lv_aload_n X.1 X.2.1 dX2_giveBoxTo_99 rfl (lv_at hl 1 rfl) ?_
        refine g_get X hP 0 2 3 (v := .ref hGB) rfl rfl inX2 (by decide) fl_X2_21 rfl dX2_giveBoxTo_100 ?_
        refine lv_iload_n X.1 X.2.1 dX2_giveBoxTo_103 rfl (lv_at hl 3 rfl) ?_
        refine lv_aload_n X.1 X.2.1 dX2_giveBoxTo_104 rfl (lv_at hl 1 rfl) ?_
        refine g_get X hP 0 2 3 (v := .ref hGB) rfl rfl inX2 (by decide) fl_X2_21 rfl dX2_giveBoxTo_105 ?_
        refine lv_iload X.1 X.2.1 dX2_giveBoxTo_108 (lv_at hl 0 rfl) ?_
        obtain ⟨hin, h⟩ := h
        refine va_iald (D := G.1) X.1 X.2.1 X.k.1 hP 4 0 rfl rfl hin dX2_giveBoxTo_110 ?_
        refine lv_topi (fun x_2 e_x_2 => ?_)
        replace h := h x_2 e_x_2
        obtain ⟨hin, h⟩ := h
        refine g_ist X hP hD hS 4 rfl hin dX2_giveBoxTo_111 (fun aGB_3 e_aGB_3 H locs hP hD hS => ?_)
        replace h := h aGB_3 e_aGB_3
        replace hP : va_P G.1 gCl [cMT hMT hMC hGL hBL hGB hBB hSK hSN, cI G hMC 169 aMC, cI G hGL 13 aGL, cI G hBL 13 aBL, cI G hGB 13 aGB_3, cI G hBB 13 aBB, cI G hSK 13 aSK, cZ G hSN 13 aSN] H := hP
        replace hD : va_D A [cMT hMT hMC hGL hBL hGB hBB hSK hSN, cI G hMC 169 aMC, cI G hGL 13 aGL, cI G hBL 13 aBL, cI G hGB 13 aGB_3, cI G hBB 13 aBB, cI G hSK 13 aSK, cZ G hSN 13 aSN] := hD
        refine lv_iload X.1 X.2.1 dX2_giveBoxTo_112 (lv_at hl 0 rfl) ?_
        refine lv_istore_n (lv' := [(3, .int v5_1), (5, .int v5_1), (0, .ref hMT), (2, .int v2), (4, .int v4)]) X.1 X.2.1 dX2_giveBoxTo_114 rfl hl (by decide) rfl (fun ls hl => ?_)
        refine lv_iinc (v := (v4 + (1 : Int32))) (lv' := [(4, .int (v4 + (1 : Int32))), (3, .int v5_1), (5, .int v5_1), (0, .ref hMT), (2, .int v2)]) X.1 X.2.1 dX2_giveBoxTo_115 hl (k := 4) rfl rfl (by decide) rfl (fun ls hl => ?_)
        refine lv_goto (tgt := 81) X.1 X.2.1 dX2_giveBoxTo_118 (by decide) ?_
        exact ih aGL aBL aGB_3 aBB aSK aSN v2 v5_1 (v4 + (1 : Int32)) _ _ _ h hP hD hS (lv_sub hl [3, 4, 1, 0] rfl)
set_option maxHeartbeats 4000000 in
set_option maxRecDepth 100000 in
theorem s_MT_giveBoxTo_40 {p : Program} {l : Launch} {e : Env} {s : State} {m : MethodId} {args : Array Value} {below : List Frame} {meth : Method} {c : Code} {G : gEnv} {A : Nat → Prop} {hMT : Nat} {hMC : Nat} {hGL : Nat} {hBL : Nat} {hGB : Nat} {hBB : Nat} {hSK : Nat} {hSN : Nat} {aMC : Nat → Int32} {post : (Nat → Int32) → (Nat → Int32) → (Nat → Int32) → (Nat → Int32) → (Nat → Int32) → (Nat → Int32) → Prop} (X : gX p m meth c cX2_giveBoxTo 6 RX2 none s args G A)  : ∀ (n : Nat) (aGL : (Nat → Int32)) (aBL : (Nat → Int32)) (aGB : (Nat → Int32)) (aBB : (Nat → Int32)) (aSK : (Nat → Int32)) (aSN : (Nat → Int32)) (v2 : Int32) (v3 : Int32) (v4 : Int32) (H : Heap) (locs : List Loc) (ls : Array Slot), MT_giveBoxTo_40 aMC post n aGL aBL aGB aBB aSK aSN v2 v3 v4 → va_P G.1 gCl [cMT hMT hMC hGL hBL hGB hBB hSK hSN, cI G hMC 169 aMC, cI G hGL 13 aGL, cI G hBL 13 aBL, cI G hGB 13 aGB, cI G hBB 13 aBB, cI G hSK 13 aSK, cZ G hSN 13 aSN] H → va_D A [cMT hMT hMC hGL hBL hGB hBB hSK hSN, cI G hMC 169 aMC, cI G hGL 13 aGL, cI G hBL 13 aBL, cI G hGB 13 aGB, cI G hBB 13 aBB, cI G hSK 13 aSK, cZ G hSN 13 aSN] → va_S A s.heap H locs → lv_has ls 6 [(0, .ref hMT), (2, .int v2), (3, .int v3), (4, .int v4)] → W p l e rm_MT_giveBoxTo s m args below meth c H locs 0 0 (MQ below (gQv G (fun (u : (Nat → Int32) × (Nat → Int32) × (Nat → Int32) × (Nat → Int32) × (Nat → Int32) × (Nat → Int32)) => post u.1 u.2.1 u.2.2.1 u.2.2.2.1 u.2.2.2.2.1 u.2.2.2.2.2) (fun (u : (Nat → Int32) × (Nat → Int32) × (Nat → Int32) × (Nat → Int32) × (Nat → Int32) × (Nat → Int32)) => [cMT hMT hMC hGL hBL hGB hBB hSK hSN, cI G hMC 169 aMC, cI G hGL 13 u.1, cI G hBL 13 u.2.1, cI G hGB 13 u.2.2.1, cI G hBB 13 u.2.2.2.1, cI G hSK 13 u.2.2.2.2.1, cZ G hSN 13 u.2.2.2.2.2]) A) args s 0 0 A) (F0 m 40 ls []) := by
  intro n
  induction n with
  | zero => intro aGL aBL aGB aBB aSK aSN v2 v3 v4 H locs ls h _ _ _ _; exact h.elim
  | succ n ih =>
    intro aGL aBL aGB aBB aSK aSN v2 v3 v4 H locs ls h hP hD hS hl
    unfold MT_giveBoxTo_40 at h
    refine lv_iload X.1 X.2.1 dX2_giveBoxTo_40 (lv_at hl 3 rfl) ?_
    refine lv_iload_n X.1 X.2.1 dX2_giveBoxTo_42 rfl (lv_at hl 1 rfl) ?_
    refine lv_icmp_gt (tgt := 78) X.1 X.2.1 dX2_giveBoxTo_43 (by decide) (fun hc => ?_) (fun hc => ?_)
    · replace h := Eq.mp (if_pos hc) h
      refine lv_iconst (v := (0 : Int32)) X.1 X.2.1 dX2_giveBoxTo_78 (by decide) ?_
      refine lv_istore (lv' := [(4, .int (0 : Int32)), (0, .ref hMT), (2, .int v2), (3, .int v3)]) X.1 X.2.1 dX2_giveBoxTo_79 hl (by decide) rfl (fun ls hl => ?_)
      obtain ⟨n', h⟩ := h
      exact s_MT_giveBoxTo_81 X  n' aGL aBL aGB aBB aSK aSN v2 v3 (0 : Int32) _ _ _ h hP hD hS (lv_sub hl [1, 2, 3, 0] rfl)
    · replace h := Eq.mp (if_neg hc) h
      refine lv_aload_n X.1 X.2.1 dX2_giveBoxTo_46 rfl (lv_at hl 0 rfl) ?_
      refine g_get X hP 0 2 6 (v := .ref hSN) rfl rfl inX2 (by decide) fl_X2_30 rfl dX2_giveBoxTo_47 ?_
      refine lv_iload_n X.1 X.2.1 dX2_giveBoxTo_50 rfl (lv_at hl 2 rfl) ?_
      refine lv_iconst (v := (1 : Int32)) X.1 X.2.1 dX2_giveBoxTo_51 (by decide) ?_
      obtain ⟨hin, h⟩ := h
      refine g_zst X hP hD hS 7 rfl hin (by decide) dX2_giveBoxTo_52 (fun aSN_1 e_aSN_1 H locs hP hD hS => ?_)
      replace h := h aSN_1 e_aSN_1
      replace hP : va_P G.1 gCl [cMT hMT hMC hGL hBL hGB hBB hSK hSN, cI G hMC 169 aMC, cI G hGL 13 aGL, cI G hBL 13 aBL, cI G hGB 13 aGB, cI G hBB 13 aBB, cI G hSK 13 aSK, cZ G hSN 13 aSN_1] H := hP
      replace hD : va_D A [cMT hMT hMC hGL hBL hGB hBB hSK hSN, cI G hMC 169 aMC, cI G hGL 13 aGL, cI G hBL 13 aBL, cI G hGB 13 aGB, cI G hBB 13 aBB, cI G hSK 13 aSK, cZ G hSN 13 aSN_1] := hD
      refine lv_aload_n X.1 X.2.1 dX2_giveBoxTo_53 rfl (lv_at hl 0 rfl) ?_
      refine lv_iload_n X.1 X.2.1 dX2_giveBoxTo_54 rfl (lv_at hl 2 rfl) ?_
      refine lv_iload_n X.1 X.2.1 dX2_giveBoxTo_55 rfl (lv_at hl 1 rfl) ?_
      refine g_ci (wr := []) X [0, 1, 2, 3, 4, 5, 6, 7] [] (g_rV (As := [.int v3, .int v2]) (rest := []) X (c_MT_nextBox l G hMT hMC hGL hBL hGB hBB hSK hSN aMC aGL aBL aGB aBB aSK aSN_1 v3 v2 _ h _) lk_X2_46 rfl rfl ⟨Nat.le_of_ble_eq_true rfl, Nat.le_of_ble_eq_true rfl⟩ hP hD hS [0, 1, 2, 3, 4, 5, 6, 7] rfl rfl 0 2 rfl rfl rfl hl.1 rfl (Nat.le_of_ble_eq_true rfl) dX2_giveBoxTo_56 ⟨Nat.le_of_ble_eq_true rfl, Nat.le_of_ble_eq_true rfl⟩) hP hD hS rfl rfl rfl (by decide) (fun r_2 u H locs h hP hD hS => ?_)
      obtain ⟨aGL_3, aBL_4, aBB_5, aSK_6⟩ := u
      try dsimp only at h
      replace hP := hP.sub (ws' := [cMT hMT hMC hGL hBL hGB hBB hSK hSN, cI G hMC 169 aMC, cI G hGL 13 aGL_3, cI G hBL 13 aBL_4, cI G hGB 13 aGB, cI G hBB 13 aBB_5, cI G hSK 13 aSK_6, cZ G hSN 13 aSN_1]) [0, 1, 2, 3, 4, 5, 6, 7] rfl
      replace hD := hD.sub (ws' := [cMT hMT hMC hGL hBL hGB hBB hSK hSN, cI G hMC 169 aMC, cI G hGL 13 aGL_3, cI G hBL 13 aBL_4, cI G hGB 13 aGB, cI G hBB 13 aBB_5, cI G hSK 13 aSK_6, cZ G hSN 13 aSN_1]) [0, 1, 2, 3, 4, 5, 6, 7] rfl rfl
      refine lv_istore_n (lv' := [(3, .int r_2), (0, .ref hMT), (2, .int v2), (4, .int v4)]) X.1 X.2.1 dX2_giveBoxTo_59 rfl hl (by decide) rfl (fun ls hl => ?_)
      refine lv_aload_n X.1 X.2.1 dX2_giveBoxTo_60 rfl (lv_at hl 1 rfl) ?_
      refine g_get X hP 0 2 3 (v := .ref hGB) rfl rfl inX2 (by decide) fl_X2_21 rfl dX2_giveBoxTo_61 ?_
      refine lv_iload_n X.1 X.2.1 dX2_giveBoxTo_64 rfl (lv_at hl 0 rfl) ?_
      obtain ⟨hin, h⟩ := h
      refine va_iald (D := G.1) X.1 X.2.1 X.k.1 hP 4 0 rfl rfl hin dX2_giveBoxTo_65 ?_
      refine lv_if_ne (tgt := 72) X.1 X.2.1 dX2_giveBoxTo_66 (by decide) (fun hc => ?_) (fun hc => ?_)
      · replace h := Eq.mp (if_neg hc) h
        refine lv_iinc (v := (v4 + (1 : Int32))) (lv' := [(4, .int (v4 + (1 : Int32))), (3, .int r_2), (0, .ref hMT), (2, .int v2)]) X.1 X.2.1 dX2_giveBoxTo_72 hl (k := 3) rfl rfl (by decide) rfl (fun ls hl => ?_)
        refine lv_goto (tgt := 40) X.1 X.2.1 dX2_giveBoxTo_75 (by decide) ?_
        exact ih aGL_3 aBL_4 aGB aBB_5 aSK_6 aSN_1 v2 r_2 (v4 + (1 : Int32)) _ _ _ h hP hD hS (lv_sub hl [2, 3, 1, 0] rfl)
      · replace h := Eq.mp (if_pos hc) h
        refine lv_goto (tgt := 78) X.1 X.2.1 dX2_giveBoxTo_69 (by decide) ?_
        refine lv_iconst (v := (0 : Int32)) X.1 X.2.1 dX2_giveBoxTo_78 (by decide) ?_
        refine lv_istore (lv' := [(4, .int (0 : Int32)), (3, .int r_2), (0, .ref hMT), (2, .int v2)]) X.1 X.2.1 dX2_giveBoxTo_79 hl (by decide) rfl (fun ls hl => ?_)
        obtain ⟨n', h⟩ := h
        exact s_MT_giveBoxTo_81 X  n' aGL_3 aBL_4 aGB aBB_5 aSK_6 aSN_1 v2 r_2 (0 : Int32) _ _ _ h hP hD hS (lv_sub hl [2, 3, 1, 0] rfl)
set_option maxHeartbeats 4000000 in
set_option maxRecDepth 100000 in
theorem s_MT_giveBoxTo_9 {p : Program} {l : Launch} {e : Env} {s : State} {m : MethodId} {args : Array Value} {below : List Frame} {meth : Method} {c : Code} {G : gEnv} {A : Nat → Prop} {hMT : Nat} {hMC : Nat} {hGL : Nat} {hBL : Nat} {hGB : Nat} {hBB : Nat} {hSK : Nat} {hSN : Nat} {aMC : Nat → Int32} {post : (Nat → Int32) → (Nat → Int32) → (Nat → Int32) → (Nat → Int32) → (Nat → Int32) → (Nat → Int32) → Prop} (X : gX p m meth c cX2_giveBoxTo 6 RX2 none s args G A)  : ∀ (n : Nat) (aGL : (Nat → Int32)) (aBL : (Nat → Int32)) (aGB : (Nat → Int32)) (aBB : (Nat → Int32)) (aSK : (Nat → Int32)) (aSN : (Nat → Int32)) (v2 : Int32) (v3 : Int32) (H : Heap) (locs : List Loc) (ls : Array Slot), MT_giveBoxTo_9 aMC post n aGL aBL aGB aBB aSK aSN v2 v3 → va_P G.1 gCl [cMT hMT hMC hGL hBL hGB hBB hSK hSN, cI G hMC 169 aMC, cI G hGL 13 aGL, cI G hBL 13 aBL, cI G hGB 13 aGB, cI G hBB 13 aBB, cI G hSK 13 aSK, cZ G hSN 13 aSN] H → va_D A [cMT hMT hMC hGL hBL hGB hBB hSK hSN, cI G hMC 169 aMC, cI G hGL 13 aGL, cI G hBL 13 aBL, cI G hGB 13 aGB, cI G hBB 13 aBB, cI G hSK 13 aSK, cZ G hSN 13 aSN] → va_S A s.heap H locs → lv_has ls 6 [(0, .ref hMT), (2, .int v2), (3, .int v3)] → W p l e rm_MT_giveBoxTo s m args below meth c H locs 0 0 (MQ below (gQv G (fun (u : (Nat → Int32) × (Nat → Int32) × (Nat → Int32) × (Nat → Int32) × (Nat → Int32) × (Nat → Int32)) => post u.1 u.2.1 u.2.2.1 u.2.2.2.1 u.2.2.2.2.1 u.2.2.2.2.2) (fun (u : (Nat → Int32) × (Nat → Int32) × (Nat → Int32) × (Nat → Int32) × (Nat → Int32) × (Nat → Int32)) => [cMT hMT hMC hGL hBL hGB hBB hSK hSN, cI G hMC 169 aMC, cI G hGL 13 u.1, cI G hBL 13 u.2.1, cI G hGB 13 u.2.2.1, cI G hBB 13 u.2.2.2.1, cI G hSK 13 u.2.2.2.2.1, cZ G hSN 13 u.2.2.2.2.2]) A) args s 0 0 A) (F0 m 9 ls []) := by
  intro n
  induction n with
  | zero => intro aGL aBL aGB aBB aSK aSN v2 v3 H locs ls h _ _ _ _; exact h.elim
  | succ n ih =>
    intro aGL aBL aGB aBB aSK aSN v2 v3 H locs ls h hP hD hS hl
    unfold MT_giveBoxTo_9 at h
    refine lv_iload_n X.1 X.2.1 dX2_giveBoxTo_9 rfl (lv_at hl 2 rfl) ?_
    refine lv_iload_n X.1 X.2.1 dX2_giveBoxTo_10 rfl (lv_at hl 1 rfl) ?_
    refine lv_icmp_gt (tgt := 35) X.1 X.2.1 dX2_giveBoxTo_11 (by decide) (fun hc => ?_) (fun hc => ?_)
    · replace h := Eq.mp (if_pos hc) h
      refine lv_iconst (v := (0 : Int32)) X.1 X.2.1 dX2_giveBoxTo_35 (by decide) ?_
      refine lv_istore_n (lv' := [(3, .int (0 : Int32)), (0, .ref hMT), (2, .int v2)]) X.1 X.2.1 dX2_giveBoxTo_36 rfl hl (by decide) rfl (fun ls hl => ?_)
      refine lv_iconst (v := (0 : Int32)) X.1 X.2.1 dX2_giveBoxTo_37 (by decide) ?_
      refine lv_istore (lv' := [(4, .int (0 : Int32)), (3, .int (0 : Int32)), (0, .ref hMT), (2, .int v2)]) X.1 X.2.1 dX2_giveBoxTo_38 hl (by decide) rfl (fun ls hl => ?_)
      obtain ⟨n', h⟩ := h
      exact s_MT_giveBoxTo_40 X  n' aGL aBL aGB aBB aSK aSN v2 (0 : Int32) (0 : Int32) _ _ _ h hP hD hS (lv_sub hl [2, 3, 1, 0] rfl)
    · replace h := Eq.mp (if_neg hc) h
      refine lv_aload_n X.1 X.2.1 dX2_giveBoxTo_14 rfl (lv_at hl 0 rfl) ?_
      refine g_get X hP 0 2 5 (v := .ref hSK) rfl rfl inX2 (by decide) fl_X2_27 rfl dX2_giveBoxTo_15 ?_
      refine lv_iload_n X.1 X.2.1 dX2_giveBoxTo_18 rfl (lv_at hl 2 rfl) ?_
      refine lv_ldc (v := (1000000000 : Int32)) X.1 X.2.1 X.2.2.2.1 (X.2.2.2.2.1 _ cn_X2_45) dX2_giveBoxTo_19 ?_
      obtain ⟨hin, h⟩ := h
      refine g_ist X hP hD hS 6 rfl hin dX2_giveBoxTo_21 (fun aSK_1 e_aSK_1 H locs hP hD hS => ?_)
      replace h := h aSK_1 e_aSK_1
      replace hP : va_P G.1 gCl [cMT hMT hMC hGL hBL hGB hBB hSK hSN, cI G hMC 169 aMC, cI G hGL 13 aGL, cI G hBL 13 aBL, cI G hGB 13 aGB, cI G hBB 13 aBB, cI G hSK 13 aSK_1, cZ G hSN 13 aSN] H := hP
      replace hD : va_D A [cMT hMT hMC hGL hBL hGB hBB hSK hSN, cI G hMC 169 aMC, cI G hGL 13 aGL, cI G hBL 13 aBL, cI G hGB 13 aGB, cI G hBB 13 aBB, cI G hSK 13 aSK_1, cZ G hSN 13 aSN] := hD
      refine lv_aload_n X.1 X.2.1 dX2_giveBoxTo_22 rfl (lv_at hl 0 rfl) ?_
      refine g_get X hP 0 2 6 (v := .ref hSN) rfl rfl inX2 (by decide) fl_X2_30 rfl dX2_giveBoxTo_23 ?_
      refine lv_iload_n X.1 X.2.1 dX2_giveBoxTo_26 rfl (lv_at hl 2 rfl) ?_
      refine lv_iconst (v := (0 : Int32)) X.1 X.2.1 dX2_giveBoxTo_27 (by decide) ?_
      obtain ⟨hin, h⟩ := h
      refine g_zst X hP hD hS 7 rfl hin (by decide) dX2_giveBoxTo_28 (fun aSN_2 e_aSN_2 H locs hP hD hS => ?_)
      replace h := h aSN_2 e_aSN_2
      replace hP : va_P G.1 gCl [cMT hMT hMC hGL hBL hGB hBB hSK hSN, cI G hMC 169 aMC, cI G hGL 13 aGL, cI G hBL 13 aBL, cI G hGB 13 aGB, cI G hBB 13 aBB, cI G hSK 13 aSK_1, cZ G hSN 13 aSN_2] H := hP
      replace hD : va_D A [cMT hMT hMC hGL hBL hGB hBB hSK hSN, cI G hMC 169 aMC, cI G hGL 13 aGL, cI G hBL 13 aBL, cI G hGB 13 aGB, cI G hBB 13 aBB, cI G hSK 13 aSK_1, cZ G hSN 13 aSN_2] := hD
      refine lv_iinc (v := (v3 + (1 : Int32))) (lv' := [(3, .int (v3 + (1 : Int32))), (0, .ref hMT), (2, .int v2)]) X.1 X.2.1 dX2_giveBoxTo_29 hl (k := 2) rfl rfl (by decide) rfl (fun ls hl => ?_)
      refine lv_goto (tgt := 9) X.1 X.2.1 dX2_giveBoxTo_32 (by decide) ?_
      exact ih aGL aBL aGB aBB aSK_1 aSN_2 v2 (v3 + (1 : Int32)) _ _ _ h hP hD hS (lv_sub hl [1, 2, 0] rfl)
set_option maxHeartbeats 4000000 in
set_option maxRecDepth 100000 in
theorem c_MT_giveBoxTo (l : Launch) (G : gEnv) (hMT : Nat) (hMC : Nat) (hGL : Nat) (hBL : Nat) (hGB : Nat) (hBB : Nat) (hSK : Nat) (hSN : Nat) (aMC : Nat → Int32) (aGL : Nat → Int32) (aBL : Nat → Int32) (aGB : Nat → Int32) (aBB : Nat → Int32) (aSK : Nat → Int32) (aSN : Nat → Int32) (v1 : Int32) (v2 : Int32) (post : (Nat → Int32) → (Nat → Int32) → (Nat → Int32) → (Nat → Int32) → (Nat → Int32) → (Nat → Int32) → Prop) (h : MT_giveBoxTo aMC aGL aBL aGB aBB aSK aSN v1 v2 post) (sz : Nat) : Met l yX2_giveBoxTo (Cond.code yX2_giveBoxTo cX2_giveBoxTo 6 none :: wAll) (rm_MT_giveBoxTo) (gPc G [.ref hMT, .int v1, .int v2] [cMT hMT hMC hGL hBL hGB hBB hSK hSN, cI G hMC 169 aMC, cI G hGL 13 aGL, cI G hBL 13 aBL, cI G hGB 13 aGB, cI G hBB 13 aBB, cI G hSK 13 aSK, cZ G hSN 13 aSN] sz) (gQv G (fun (u : (Nat → Int32) × (Nat → Int32) × (Nat → Int32) × (Nat → Int32) × (Nat → Int32) × (Nat → Int32)) => post u.1 u.2.1 u.2.2.1 u.2.2.2.1 u.2.2.2.2.1 u.2.2.2.2.2) (fun (u : (Nat → Int32) × (Nat → Int32) × (Nat → Int32) × (Nat → Int32) × (Nat → Int32) × (Nat → Int32)) => [cMT hMT hMC hGL hBL hGB hBB hSK hSN, cI G hMC 169 aMC, cI G hGL 13 u.1, cI G hBL 13 u.2.1, cI G hGB 13 u.2.2.1, cI G hBB 13 u.2.2.2.1, cI G hSK 13 u.2.2.2.2.1, cZ G hSN 13 u.2.2.2.2.2]) (va_A [cMT hMT hMC hGL hBL hGB hBB hSK hSN, cI G hMC 169 aMC, cI G hGL 13 aGL, cI G hBL 13 aBL, cI G hGB 13 aGB, cI G hBB 13 aBB, cI G hSK 13 aSK, cZ G hSN 13 aSN] sz)) 0 0 (va_A [cMT hMT hMC hGL hBL hGB hBB hSK hSN, cI G hMC 169 aMC, cI G hGL 13 aGL, cI G hBL 13 aBL, cI G hGB 13 aGB, cI G hBB 13 aBB, cI G hSK 13 aSK, cZ G hSN 13 aSN] sz) := by
  refine Met.ofW (cc := cX2_giveBoxTo) (maxL := 6) (ret := none) (by decide) rfl ?_
  intro p e s m args below meth c s₁ B hml hv
  obtain ⟨rfl, hsz, hP, hK, hD0⟩ := hv
  subst hsz
  have X := gX.ofB (ws := [cMT hMT hMC hGL hBL hGB hBB hSK hSN, cI G hMC 169 aMC, cI G hGL 13 aGL, cI G hBL 13 aBL, cI G hGB 13 aGB, cI G hBB 13 aBB, cI G hSK 13 aSK, cZ G hSN 13 aSN]) B hml hK hD0
  have hD := hD0.self (sz := s.heap.size)
  generalize hAe : va_A [cMT hMT hMC hGL hBL hGB hBB hSK hSN, cI G hMC 169 aMC, cI G hGL 13 aGL, cI G hBL 13 aBL, cI G hGB 13 aGB, cI G hBB 13 aBB, cI G hSK 13 aSK, cZ G hSN 13 aSN] s.heap.size = A at X hD ⊢
  have hS : va_S A s.heap s.heap [] := va_S.rf
  have hl := lv_entry ([.ref hMT, .int v1, .int v2]) (n := 6) (Nat.le_of_ble_eq_true rfl)
  rw [lg_entry_eq]
  generalize (lg_sl ([.ref hMT, .int v1, .int v2]) ++ List.replicate (6 - (lg_sl ([.ref hMT, .int v1, .int v2])).length) Slot.unset).toArray = ls at hl ⊢
  have hl : lv_has ls 6 [(0, .ref hMT), (1, .int v1), (2, .int v2)] := hl
  dsimp only [headSpec]
  unfold MT_giveBoxTo at h
  refine lv_aload_n X.1 X.2.1 dX2_giveBoxTo_0 rfl (lv_at hl 0 rfl) ?_
  refine g_get X hP 0 2 3 (v := .ref hGB) rfl rfl inX2 (by decide) fl_X2_21 rfl dX2_giveBoxTo_1 ?_
  refine lv_iconst (v := (0 : Int32)) X.1 X.2.1 dX2_giveBoxTo_4 (by decide) ?_
  refine lv_iload_n X.1 X.2.1 dX2_giveBoxTo_5 rfl (lv_at hl 1 rfl) ?_
  obtain ⟨hin, h⟩ := h
  refine g_ist X hP hD hS 4 rfl hin dX2_giveBoxTo_6 (fun aGB_1 e_aGB_1 H locs hP hD hS => ?_)
  replace h := h aGB_1 e_aGB_1
  replace hP : va_P G.1 gCl [cMT hMT hMC hGL hBL hGB hBB hSK hSN, cI G hMC 169 aMC, cI G hGL 13 aGL, cI G hBL 13 aBL, cI G hGB 13 aGB_1, cI G hBB 13 aBB, cI G hSK 13 aSK, cZ G hSN 13 aSN] H := hP
  replace hD : va_D A [cMT hMT hMC hGL hBL hGB hBB hSK hSN, cI G hMC 169 aMC, cI G hGL 13 aGL, cI G hBL 13 aBL, cI G hGB 13 aGB_1, cI G hBB 13 aBB, cI G hSK 13 aSK, cZ G hSN 13 aSN] := hD
  refine lv_iconst (v := (0 : Int32)) X.1 X.2.1 dX2_giveBoxTo_7 (by decide) ?_
  refine lv_istore_n (lv' := [(3, .int (0 : Int32)), (0, .ref hMT), (1, .int v1), (2, .int v2)]) X.1 X.2.1 dX2_giveBoxTo_8 rfl hl (by decide) rfl (fun ls hl => ?_)
  obtain ⟨n', h⟩ := h
  exact s_MT_giveBoxTo_9 X  n' aGL aBL aGB_1 aBB aSK aSN v2 (0 : Int32) _ _ _ h hP hD hS (lv_sub hl [1, 3, 0] rfl)
abbrev rm_MT_leastSum : Room := { frames := 2, cells := 0, slots := 0, locals := 52 }
set_option maxHeartbeats 4000000 in
set_option maxRecDepth 100000 in
theorem s_MT_leastSum_61 {p : Program} {l : Launch} {e : Env} {s : State} {m : MethodId} {args : Array Value} {below : List Frame} {meth : Method} {c : Code} {G : gEnv} {A : Nat → Prop} {hMT : Nat} {hMC : Nat} {hGL : Nat} {hBL : Nat} {hGB : Nat} {hBB : Nat} {hSK : Nat} {hSN : Nat} {aMC : Nat → Int32} {post : Int32 → (Nat → Int32) → (Nat → Int32) → (Nat → Int32) → (Nat → Int32) → (Nat → Int32) → (Nat → Int32) → Prop} (X : gX p m meth c cX2_leastSum 5 RX2 (some .int) s args G A)  : ∀ (n : Nat) (aGL : (Nat → Int32)) (aBL : (Nat → Int32)) (aGB : (Nat → Int32)) (aBB : (Nat → Int32)) (aSK : (Nat → Int32)) (aSN : (Nat → Int32)) (v2 : Int32) (v3 : Int32) (v4 : Int32) (H : Heap) (locs : List Loc) (ls : Array Slot), MT_leastSum_61 aMC post n aGL aBL aGB aBB aSK aSN v2 v3 v4 → va_P G.1 gCl [cMT hMT hMC hGL hBL hGB hBB hSK hSN, cI G hMC 169 aMC, cI G hGL 13 aGL, cI G hBL 13 aBL, cI G hGB 13 aGB, cI G hBB 13 aBB, cI G hSK 13 aSK, cZ G hSN 13 aSN] H → va_D A [cMT hMT hMC hGL hBL hGB hBB hSK hSN, cI G hMC 169 aMC, cI G hGL 13 aGL, cI G hBL 13 aBL, cI G hGB 13 aGB, cI G hBB 13 aBB, cI G hSK 13 aSK, cZ G hSN 13 aSN] → va_S A s.heap H locs → lv_has ls 5 [(0, .ref hMT), (2, .int v2), (3, .int v3), (4, .int v4)] → W p l e rm_MT_leastSum s m args below meth c H locs 0 0 (MQ below (gQi G (fun (r : Int32) (u : (Nat → Int32) × (Nat → Int32) × (Nat → Int32) × (Nat → Int32) × (Nat → Int32) × (Nat → Int32)) => post r u.1 u.2.1 u.2.2.1 u.2.2.2.1 u.2.2.2.2.1 u.2.2.2.2.2) (fun (u : (Nat → Int32) × (Nat → Int32) × (Nat → Int32) × (Nat → Int32) × (Nat → Int32) × (Nat → Int32)) => [cMT hMT hMC hGL hBL hGB hBB hSK hSN, cI G hMC 169 aMC, cI G hGL 13 u.1, cI G hBL 13 u.2.1, cI G hGB 13 u.2.2.1, cI G hBB 13 u.2.2.2.1, cI G hSK 13 u.2.2.2.2.1, cZ G hSN 13 u.2.2.2.2.2]) A) args s 0 0 A) (F0 m 61 ls []) := by
  intro n
  induction n with
  | zero => intro aGL aBL aGB aBB aSK aSN v2 v3 v4 H locs ls h _ _ _ _; exact h.elim
  | succ n ih =>
    intro aGL aBL aGB aBB aSK aSN v2 v3 v4 H locs ls h hP hD hS hl
    unfold MT_leastSum_61 at h
    refine lv_iload X.1 X.2.1 dX2_leastSum_61 (lv_at hl 3 rfl) ?_
    refine lv_iload_n X.1 X.2.1 dX2_leastSum_63 rfl (lv_at hl 1 rfl) ?_
    refine lv_icmp_gt (tgt := 104) X.1 X.2.1 dX2_leastSum_64 (by decide) (fun hc => ?_) (fun hc => ?_)
    · replace h := Eq.mp (if_pos hc) h
      refine lv_iload_n X.1 X.2.1 dX2_leastSum_104 rfl (lv_at hl 2 rfl) ?_
      refine lv_ldc (v := (100000 : Int32)) X.1 X.2.1 X.2.2.2.1 (X.2.2.2.2.1 _ cn_X2_34) dX2_leastSum_105 ?_
      refine lv_icmp_lt (tgt := 114) X.1 X.2.1 dX2_leastSum_107 (by decide) (fun hc => ?_) (fun hc => ?_)
      · replace h := Eq.mp (if_pos hc) h
        refine lv_iload_n X.1 X.2.1 dX2_leastSum_114 rfl (lv_at hl 2 rfl) ?_
        exact g_iret X (aGL, aBL, aGB, aBB, aSK, aSN) h hP hD hS dX2_leastSum_115
      · replace h := Eq.mp (if_neg hc) h
        refine lv_iconst (v := (-1 : Int32)) X.1 X.2.1 dX2_leastSum_110 (by decide) ?_
        refine lv_goto (tgt := 115) X.1 X.2.1 dX2_leastSum_111 (by decide) ?_
        exact g_iret X (aGL, aBL, aGB, aBB, aSK, aSN) h hP hD hS dX2_leastSum_115
    · replace h := Eq.mp (if_neg hc) h
      refine lv_aload_n X.1 X.2.1 dX2_leastSum_67 rfl (lv_at hl 0 rfl) ?_
      refine g_get X hP 0 2 3 (v := .ref hGB) rfl rfl inX2 (by decide) fl_X2_21 rfl dX2_leastSum_68 ?_
      refine lv_iload X.1 X.2.1 dX2_leastSum_71 (lv_at hl 3 rfl) ?_
      obtain ⟨hin, h⟩ := h
      refine va_iald (D := G.1) X.1 X.2.1 X.k.1 hP 4 0 rfl rfl hin dX2_leastSum_73 ?_
      refine lv_if_eq (tgt := 98) X.1 X.2.1 dX2_leastSum_74 (by decide) (fun hc => ?_) (fun hc => ?_)
      · replace h := Eq.mp (if_pos hc) h
        refine lv_iinc (v := (v4 + (1 : Int32))) (lv' := [(4, .int (v4 + (1 : Int32))), (0, .ref hMT), (2, .int v2), (3, .int v3)]) X.1 X.2.1 dX2_leastSum_98 hl (k := 3) rfl rfl (by decide) rfl (fun ls hl => ?_)
        refine lv_goto (tgt := 61) X.1 X.2.1 dX2_leastSum_101 (by decide) ?_
        exact ih aGL aBL aGB aBB aSK aSN v2 v3 (v4 + (1 : Int32)) _ _ _ h hP hD hS (lv_sub hl [1, 2, 3, 0] rfl)
      · replace h := Eq.mp (if_neg hc) h
        refine lv_iload_n X.1 X.2.1 dX2_leastSum_77 rfl (lv_at hl 2 rfl) ?_
        refine lv_aload_n X.1 X.2.1 dX2_leastSum_78 rfl (lv_at hl 0 rfl) ?_
        refine g_get X hP 0 2 0 (v := .ref hMC) rfl rfl inX2 (by decide) fl_X2_11 rfl dX2_leastSum_79 ?_
        refine lv_aload_n X.1 X.2.1 dX2_leastSum_82 rfl (lv_at hl 0 rfl) ?_
        refine g_get X hP 0 2 3 (v := .ref hGB) rfl rfl inX2 (by decide) fl_X2_21 rfl dX2_leastSum_83 ?_
        refine lv_iload X.1 X.2.1 dX2_leastSum_86 (lv_at hl 3 rfl) ?_
        obtain ⟨hin, h⟩ := h
        refine va_iald (D := G.1) X.1 X.2.1 X.k.1 hP 4 0 rfl rfl hin dX2_leastSum_88 ?_
        refine lv_bipush (v := (13 : Int32)) X.1 X.2.1 dX2_leastSum_89 (by decide) ?_
        refine lv_imul X.1 X.2.1 dX2_leastSum_91 ?_
        refine lv_iload X.1 X.2.1 dX2_leastSum_92 (lv_at hl 3 rfl) ?_
        refine lv_iadd X.1 X.2.1 dX2_leastSum_94 ?_
        obtain ⟨hin, h⟩ := h
        refine va_iald (D := G.1) X.1 X.2.1 X.k.1 hP 1 0 rfl rfl hin dX2_leastSum_95 ?_
        refine lv_iadd X.1 X.2.1 dX2_leastSum_96 ?_
        refine lv_topi (fun v3_1 e_v3_1 => ?_)
        replace h := h v3_1 e_v3_1
        refine lv_istore_n (lv' := [(3, .int v3_1), (0, .ref hMT), (2, .int v2), (4, .int v4)]) X.1 X.2.1 dX2_leastSum_97 rfl hl (by decide) rfl (fun ls hl => ?_)
        refine lv_iinc (v := (v4 + (1 : Int32))) (lv' := [(4, .int (v4 + (1 : Int32))), (3, .int v3_1), (0, .ref hMT), (2, .int v2)]) X.1 X.2.1 dX2_leastSum_98 hl (k := 3) rfl rfl (by decide) rfl (fun ls hl => ?_)
        refine lv_goto (tgt := 61) X.1 X.2.1 dX2_leastSum_101 (by decide) ?_
        exact ih aGL aBL aGB aBB aSK aSN v2 v3_1 (v4 + (1 : Int32)) _ _ _ h hP hD hS (lv_sub hl [2, 3, 1, 0] rfl)
set_option maxHeartbeats 4000000 in
set_option maxRecDepth 100000 in
theorem s_MT_leastSum_39 {p : Program} {l : Launch} {e : Env} {s : State} {m : MethodId} {args : Array Value} {below : List Frame} {meth : Method} {c : Code} {G : gEnv} {A : Nat → Prop} {hMT : Nat} {hMC : Nat} {hGL : Nat} {hBL : Nat} {hGB : Nat} {hBB : Nat} {hSK : Nat} {hSN : Nat} {aMC : Nat → Int32} {post : Int32 → (Nat → Int32) → (Nat → Int32) → (Nat → Int32) → (Nat → Int32) → (Nat → Int32) → (Nat → Int32) → Prop} (X : gX p m meth c cX2_leastSum 5 RX2 (some .int) s args G A)  : ∀ (n : Nat) (aGL : (Nat → Int32)) (aBL : (Nat → Int32)) (aGB : (Nat → Int32)) (aBB : (Nat → Int32)) (aSK : (Nat → Int32)) (aSN : (Nat → Int32)) (v1 : Int32) (v2 : Int32) (v3 : Int32) (H : Heap) (locs : List Loc) (ls : Array Slot), MT_leastSum_39 aMC post n aGL aBL aGB aBB aSK aSN v1 v2 v3 → va_P G.1 gCl [cMT hMT hMC hGL hBL hGB hBB hSK hSN, cI G hMC 169 aMC, cI G hGL 13 aGL, cI G hBL 13 aBL, cI G hGB 13 aGB, cI G hBB 13 aBB, cI G hSK 13 aSK, cZ G hSN 13 aSN] H → va_D A [cMT hMT hMC hGL hBL hGB hBB hSK hSN, cI G hMC 169 aMC, cI G hGL 13 aGL, cI G hBL 13 aBL, cI G hGB 13 aGB, cI G hBB 13 aBB, cI G hSK 13 aSK, cZ G hSN 13 aSN] → va_S A s.heap H locs → lv_has ls 5 [(0, .ref hMT), (1, .int v1), (2, .int v2), (3, .int v3)] → W p l e rm_MT_leastSum s m args below meth c H locs 0 0 (MQ below (gQi G (fun (r : Int32) (u : (Nat → Int32) × (Nat → Int32) × (Nat → Int32) × (Nat → Int32) × (Nat → Int32) × (Nat → Int32)) => post r u.1 u.2.1 u.2.2.1 u.2.2.2.1 u.2.2.2.2.1 u.2.2.2.2.2) (fun (u : (Nat → Int32) × (Nat → Int32) × (Nat → Int32) × (Nat → Int32) × (Nat → Int32) × (Nat → Int32)) => [cMT hMT hMC hGL hBL hGB hBB hSK hSN, cI G hMC 169 aMC, cI G hGL 13 u.1, cI G hBL 13 u.2.1, cI G hGB 13 u.2.2.1, cI G hBB 13 u.2.2.2.1, cI G hSK 13 u.2.2.2.2.1, cZ G hSN 13 u.2.2.2.2.2]) A) args s 0 0 A) (F0 m 39 ls []) := by
  intro n
  induction n with
  | zero => intro aGL aBL aGB aBB aSK aSN v1 v2 v3 H locs ls h _ _ _ _; exact h.elim
  | succ n ih =>
    intro aGL aBL aGB aBB aSK aSN v1 v2 v3 H locs ls h hP hD hS hl
    unfold MT_leastSum_39 at h
    refine lv_iload_n X.1 X.2.1 dX2_leastSum_39 rfl (lv_at hl 3 rfl) ?_
    refine lv_iload_n X.1 X.2.1 dX2_leastSum_40 rfl (lv_at hl 1 rfl) ?_
    refine lv_icmp_gt (tgt := 56) X.1 X.2.1 dX2_leastSum_41 (by decide) (fun hc => ?_) (fun hc => ?_)
    · replace h := Eq.mp (if_pos hc) h
      refine lv_iconst (v := (0 : Int32)) X.1 X.2.1 dX2_leastSum_56 (by decide) ?_
      refine lv_istore_n (lv' := [(3, .int (0 : Int32)), (0, .ref hMT), (1, .int v1), (2, .int v2)]) X.1 X.2.1 dX2_leastSum_57 rfl hl (by decide) rfl (fun ls hl => ?_)
      refine lv_iconst (v := (1 : Int32)) X.1 X.2.1 dX2_leastSum_58 (by decide) ?_
      refine lv_istore (lv' := [(4, .int (1 : Int32)), (3, .int (0 : Int32)), (0, .ref hMT), (1, .int v1), (2, .int v2)]) X.1 X.2.1 dX2_leastSum_59 hl (by decide) rfl (fun ls hl => ?_)
      obtain ⟨n', h⟩ := h
      exact s_MT_leastSum_61 X  n' aGL aBL aGB aBB aSK aSN v2 (0 : Int32) (1 : Int32) _ _ _ h hP hD hS (lv_sub hl [2, 4, 1, 0] rfl)
    · replace h := Eq.mp (if_neg hc) h
      refine lv_aload_n X.1 X.2.1 dX2_leastSum_44 rfl (lv_at hl 0 rfl) ?_
      refine lv_iload_n X.1 X.2.1 dX2_leastSum_45 rfl (lv_at hl 3 rfl) ?_
      refine lv_iload_n X.1 X.2.1 dX2_leastSum_46 rfl (lv_at hl 2 rfl) ?_
      refine g_cv (wr := []) X [0, 1, 2, 3, 4, 5, 6, 7] [] (g_rV (As := [.int v3, .int v2]) (rest := []) X (c_MT_giveBoxTo l G hMT hMC hGL hBL hGB hBB hSK hSN aMC aGL aBL aGB aBB aSK aSN v3 v2 _ h _) lk_X2_41 rfl rfl ⟨Nat.le_of_ble_eq_true rfl, Nat.le_of_ble_eq_true rfl⟩ hP hD hS [0, 1, 2, 3, 4, 5, 6, 7] rfl rfl 0 2 rfl rfl rfl hl.1 rfl (Nat.le_of_ble_eq_true rfl) dX2_leastSum_47 ⟨Nat.le_of_ble_eq_true rfl, Nat.le_of_ble_eq_true rfl⟩) hP hD hS rfl rfl rfl (by decide) (fun u H locs h hP hD hS => ?_)
      obtain ⟨aGL_1, aBL_2, aGB_3, aBB_4, aSK_5, aSN_6⟩ := u
      try dsimp only at h
      replace hP := hP.sub (ws' := [cMT hMT hMC hGL hBL hGB hBB hSK hSN, cI G hMC 169 aMC, cI G hGL 13 aGL_1, cI G hBL 13 aBL_2, cI G hGB 13 aGB_3, cI G hBB 13 aBB_4, cI G hSK 13 aSK_5, cZ G hSN 13 aSN_6]) [0, 1, 2, 3, 4, 5, 6, 7] rfl
      replace hD := hD.sub (ws' := [cMT hMT hMC hGL hBL hGB hBB hSK hSN, cI G hMC 169 aMC, cI G hGL 13 aGL_1, cI G hBL 13 aBL_2, cI G hGB 13 aGB_3, cI G hBB 13 aBB_4, cI G hSK 13 aSK_5, cZ G hSN 13 aSN_6]) [0, 1, 2, 3, 4, 5, 6, 7] rfl rfl
      refine lv_iinc (v := (v3 + (1 : Int32))) (lv' := [(3, .int (v3 + (1 : Int32))), (0, .ref hMT), (1, .int v1), (2, .int v2)]) X.1 X.2.1 dX2_leastSum_50 hl (k := 3) rfl rfl (by decide) rfl (fun ls hl => ?_)
      refine lv_goto (tgt := 39) X.1 X.2.1 dX2_leastSum_53 (by decide) ?_
      exact ih aGL_1 aBL_2 aGB_3 aBB_4 aSK_5 aSN_6 v1 v2 (v3 + (1 : Int32)) _ _ _ h hP hD hS (lv_sub hl [1, 2, 3, 0] rfl)
set_option maxHeartbeats 4000000 in
set_option maxRecDepth 100000 in
theorem c_MT_leastSum (l : Launch) (G : gEnv) (hMT : Nat) (hMC : Nat) (hGL : Nat) (hBL : Nat) (hGB : Nat) (hBB : Nat) (hSK : Nat) (hSN : Nat) (aMC : Nat → Int32) (aGL : Nat → Int32) (aBL : Nat → Int32) (aGB : Nat → Int32) (aBB : Nat → Int32) (aSK : Nat → Int32) (aSN : Nat → Int32) (v1 : Int32) (v2 : Int32) (post : Int32 → (Nat → Int32) → (Nat → Int32) → (Nat → Int32) → (Nat → Int32) → (Nat → Int32) → (Nat → Int32) → Prop) (h : MT_leastSum aMC aGL aBL aGB aBB aSK aSN v1 v2 post) (sz : Nat) : Met l yX2_leastSum (Cond.code yX2_leastSum cX2_leastSum 5 (some .int) :: wAll) (rm_MT_leastSum) (gPc G [.ref hMT, .int v1, .int v2] [cMT hMT hMC hGL hBL hGB hBB hSK hSN, cI G hMC 169 aMC, cI G hGL 13 aGL, cI G hBL 13 aBL, cI G hGB 13 aGB, cI G hBB 13 aBB, cI G hSK 13 aSK, cZ G hSN 13 aSN] sz) (gQi G (fun (r : Int32) (u : (Nat → Int32) × (Nat → Int32) × (Nat → Int32) × (Nat → Int32) × (Nat → Int32) × (Nat → Int32)) => post r u.1 u.2.1 u.2.2.1 u.2.2.2.1 u.2.2.2.2.1 u.2.2.2.2.2) (fun (u : (Nat → Int32) × (Nat → Int32) × (Nat → Int32) × (Nat → Int32) × (Nat → Int32) × (Nat → Int32)) => [cMT hMT hMC hGL hBL hGB hBB hSK hSN, cI G hMC 169 aMC, cI G hGL 13 u.1, cI G hBL 13 u.2.1, cI G hGB 13 u.2.2.1, cI G hBB 13 u.2.2.2.1, cI G hSK 13 u.2.2.2.2.1, cZ G hSN 13 u.2.2.2.2.2]) (va_A [cMT hMT hMC hGL hBL hGB hBB hSK hSN, cI G hMC 169 aMC, cI G hGL 13 aGL, cI G hBL 13 aBL, cI G hGB 13 aGB, cI G hBB 13 aBB, cI G hSK 13 aSK, cZ G hSN 13 aSN] sz)) 0 0 (va_A [cMT hMT hMC hGL hBL hGB hBB hSK hSN, cI G hMC 169 aMC, cI G hGL 13 aGL, cI G hBL 13 aBL, cI G hGB 13 aGB, cI G hBB 13 aBB, cI G hSK 13 aSK, cZ G hSN 13 aSN] sz) := by
  refine Met.ofW (cc := cX2_leastSum) (maxL := 5) (ret := (some .int)) (by decide) rfl ?_
  intro p e s m args below meth c s₁ B hml hv
  obtain ⟨rfl, hsz, hP, hK, hD0⟩ := hv
  subst hsz
  have X := gX.ofB (ws := [cMT hMT hMC hGL hBL hGB hBB hSK hSN, cI G hMC 169 aMC, cI G hGL 13 aGL, cI G hBL 13 aBL, cI G hGB 13 aGB, cI G hBB 13 aBB, cI G hSK 13 aSK, cZ G hSN 13 aSN]) B hml hK hD0
  have hD := hD0.self (sz := s.heap.size)
  generalize hAe : va_A [cMT hMT hMC hGL hBL hGB hBB hSK hSN, cI G hMC 169 aMC, cI G hGL 13 aGL, cI G hBL 13 aBL, cI G hGB 13 aGB, cI G hBB 13 aBB, cI G hSK 13 aSK, cZ G hSN 13 aSN] s.heap.size = A at X hD ⊢
  have hS : va_S A s.heap s.heap [] := va_S.rf
  have hl := lv_entry ([.ref hMT, .int v1, .int v2]) (n := 5) (Nat.le_of_ble_eq_true rfl)
  rw [lg_entry_eq]
  generalize (lg_sl ([.ref hMT, .int v1, .int v2]) ++ List.replicate (5 - (lg_sl ([.ref hMT, .int v1, .int v2])).length) Slot.unset).toArray = ls at hl ⊢
  have hl : lv_has ls 5 [(0, .ref hMT), (1, .int v1), (2, .int v2)] := hl
  dsimp only [headSpec]
  unfold MT_leastSum at h
  refine lv_iload_n X.1 X.2.1 dX2_leastSum_0 rfl (lv_at hl 1 rfl) ?_
  refine lv_iload_n X.1 X.2.1 dX2_leastSum_1 rfl (lv_at hl 2 rfl) ?_
  refine lv_icmp_gt (tgt := 11) X.1 X.2.1 dX2_leastSum_2 (by decide) (fun hc => ?_) (fun hc => ?_)
  · replace h := Eq.mp (if_pos hc) h
    refine lv_iconst (v := (-1 : Int32)) X.1 X.2.1 dX2_leastSum_11 (by decide) ?_
    exact g_iret X (aGL, aBL, aGB, aBB, aSK, aSN) h hP hD hS dX2_leastSum_12
  · replace h := Eq.mp (if_neg hc) h
    refine lv_iload_n X.1 X.2.1 dX2_leastSum_5 rfl (lv_at hl 2 rfl) ?_
    refine lv_bipush (v := (12 : Int32)) X.1 X.2.1 dX2_leastSum_6 (by decide) ?_
    refine lv_icmp_le (tgt := 13) X.1 X.2.1 dX2_leastSum_8 (by decide) (fun hc => ?_) (fun hc => ?_)
    · replace h := Eq.mp (if_pos hc) h
      refine lv_aload_n X.1 X.2.1 dX2_leastSum_13 rfl (lv_at hl 0 rfl) ?_
      refine g_get X hP 0 2 1 (v := .ref hGL) rfl rfl inX2 (by decide) fl_X2_15 rfl dX2_leastSum_14 ?_
      refine lv_iconst (v := (0 : Int32)) X.1 X.2.1 dX2_leastSum_17 (by decide) ?_
      refine g_cv (wr := [cMT hMT hMC hGL hBL hGB hBB hSK hSN, cI G hMC 169 aMC, cI G hBL 13 aBL, cI G hGB 13 aGB, cI G hBB 13 aBB, cI G hSK 13 aSK, cZ G hSN 13 aSN]) X [2] [0, 1, 3, 4, 5, 6, 7] (g_rS (As := [.ref hGL, .int (0 : Int32)]) (rest := []) X (c_fill l G hGL 13 aGL (0 : Int32) (by decide) _) lk_X2_35 rfl rfl ⟨Nat.le_of_ble_eq_true rfl, Nat.le_of_ble_eq_true rfl⟩ hP hD hS [2] rfl rfl rfl hl.1 rfl (Nat.le_of_ble_eq_true rfl) dX2_leastSum_18 ⟨Nat.le_of_ble_eq_true rfl, Nat.le_of_ble_eq_true rfl⟩) hP hD hS rfl rfl rfl (by decide) (fun aGL_1 H locs hu hP hD hS => ?_)
      replace h := h aGL_1 hu
      replace hP := hP.sub (ws' := [cMT hMT hMC hGL hBL hGB hBB hSK hSN, cI G hMC 169 aMC, cI G hGL 13 aGL_1, cI G hBL 13 aBL, cI G hGB 13 aGB, cI G hBB 13 aBB, cI G hSK 13 aSK, cZ G hSN 13 aSN]) [0, 1, 7, 2, 3, 4, 5, 6] rfl
      replace hD := hD.sub (ws' := [cMT hMT hMC hGL hBL hGB hBB hSK hSN, cI G hMC 169 aMC, cI G hGL 13 aGL_1, cI G hBL 13 aBL, cI G hGB 13 aGB, cI G hBB 13 aBB, cI G hSK 13 aSK, cZ G hSN 13 aSN]) [0, 1, 7, 2, 3, 4, 5, 6] rfl rfl
      refine lv_aload_n X.1 X.2.1 dX2_leastSum_21 rfl (lv_at hl 0 rfl) ?_
      refine g_get X hP 0 2 2 (v := .ref hBL) rfl rfl inX2 (by decide) fl_X2_18 rfl dX2_leastSum_22 ?_
      refine lv_iconst (v := (0 : Int32)) X.1 X.2.1 dX2_leastSum_25 (by decide) ?_
      refine g_cv (wr := [cMT hMT hMC hGL hBL hGB hBB hSK hSN, cI G hMC 169 aMC, cI G hGL 13 aGL_1, cI G hGB 13 aGB, cI G hBB 13 aBB, cI G hSK 13 aSK, cZ G hSN 13 aSN]) X [3] [0, 1, 2, 4, 5, 6, 7] (g_rS (As := [.ref hBL, .int (0 : Int32)]) (rest := []) X (c_fill l G hBL 13 aBL (0 : Int32) (by decide) _) lk_X2_35 rfl rfl ⟨Nat.le_of_ble_eq_true rfl, Nat.le_of_ble_eq_true rfl⟩ hP hD hS [3] rfl rfl rfl hl.1 rfl (Nat.le_of_ble_eq_true rfl) dX2_leastSum_26 ⟨Nat.le_of_ble_eq_true rfl, Nat.le_of_ble_eq_true rfl⟩) hP hD hS rfl rfl rfl (by decide) (fun aBL_2 H locs hu hP hD hS => ?_)
      replace h := h aBL_2 hu
      replace hP := hP.sub (ws' := [cMT hMT hMC hGL hBL hGB hBB hSK hSN, cI G hMC 169 aMC, cI G hGL 13 aGL_1, cI G hBL 13 aBL_2, cI G hGB 13 aGB, cI G hBB 13 aBB, cI G hSK 13 aSK, cZ G hSN 13 aSN]) [0, 1, 2, 7, 3, 4, 5, 6] rfl
      replace hD := hD.sub (ws' := [cMT hMT hMC hGL hBL hGB hBB hSK hSN, cI G hMC 169 aMC, cI G hGL 13 aGL_1, cI G hBL 13 aBL_2, cI G hGB 13 aGB, cI G hBB 13 aBB, cI G hSK 13 aSK, cZ G hSN 13 aSN]) [0, 1, 2, 7, 3, 4, 5, 6] rfl rfl
      refine lv_aload_n X.1 X.2.1 dX2_leastSum_29 rfl (lv_at hl 0 rfl) ?_
      refine g_get X hP 0 2 3 (v := .ref hGB) rfl rfl inX2 (by decide) fl_X2_21 rfl dX2_leastSum_30 ?_
      refine lv_iconst (v := (0 : Int32)) X.1 X.2.1 dX2_leastSum_33 (by decide) ?_
      refine g_cv (wr := [cMT hMT hMC hGL hBL hGB hBB hSK hSN, cI G hMC 169 aMC, cI G hGL 13 aGL_1, cI G hBL 13 aBL_2, cI G hBB 13 aBB, cI G hSK 13 aSK, cZ G hSN 13 aSN]) X [4] [0, 1, 2, 3, 5, 6, 7] (g_rS (As := [.ref hGB, .int (0 : Int32)]) (rest := []) X (c_fill l G hGB 13 aGB (0 : Int32) (by decide) _) lk_X2_35 rfl rfl ⟨Nat.le_of_ble_eq_true rfl, Nat.le_of_ble_eq_true rfl⟩ hP hD hS [4] rfl rfl rfl hl.1 rfl (Nat.le_of_ble_eq_true rfl) dX2_leastSum_34 ⟨Nat.le_of_ble_eq_true rfl, Nat.le_of_ble_eq_true rfl⟩) hP hD hS rfl rfl rfl (by decide) (fun aGB_3 H locs hu hP hD hS => ?_)
      replace h := h aGB_3 hu
      replace hP := hP.sub (ws' := [cMT hMT hMC hGL hBL hGB hBB hSK hSN, cI G hMC 169 aMC, cI G hGL 13 aGL_1, cI G hBL 13 aBL_2, cI G hGB 13 aGB_3, cI G hBB 13 aBB, cI G hSK 13 aSK, cZ G hSN 13 aSN]) [0, 1, 2, 3, 7, 4, 5, 6] rfl
      replace hD := hD.sub (ws' := [cMT hMT hMC hGL hBL hGB hBB hSK hSN, cI G hMC 169 aMC, cI G hGL 13 aGL_1, cI G hBL 13 aBL_2, cI G hGB 13 aGB_3, cI G hBB 13 aBB, cI G hSK 13 aSK, cZ G hSN 13 aSN]) [0, 1, 2, 3, 7, 4, 5, 6] rfl rfl
      refine lv_iconst (v := (1 : Int32)) X.1 X.2.1 dX2_leastSum_37 (by decide) ?_
      refine lv_istore_n (lv' := [(3, .int (1 : Int32)), (0, .ref hMT), (1, .int v1), (2, .int v2)]) X.1 X.2.1 dX2_leastSum_38 rfl hl (by decide) rfl (fun ls hl => ?_)
      obtain ⟨n', h⟩ := h
      exact s_MT_leastSum_39 X  n' aGL_1 aBL_2 aGB_3 aBB aSK aSN v1 v2 (1 : Int32) _ _ _ h hP hD hS (lv_sub hl [1, 2, 3, 0] rfl)
    · replace h := Eq.mp (if_neg hc) h
      refine lv_iconst (v := (-1 : Int32)) X.1 X.2.1 dX2_leastSum_11 (by decide) ?_
      exact g_iret X (aGL, aBL, aGB, aBB, aSK, aSN) h hP hD hS dX2_leastSum_12
