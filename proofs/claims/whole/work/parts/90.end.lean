set_option maxHeartbeats 4000000 in
set_option maxRecDepth 100000 in
/-- THE LAW, from its entry -/
theorem whole_start {p : Program} {e : Env} {s : State} {m : MethodId} {below : List Frame} {meth : Method} {c : Code} (l : Launch) (hl0 : l.stackTraces = false) {b L : Nat} {xs : Nat → Int32} (hL : L ≤ 2560) (C0 : lw_At p s m meth c b L xs) : W p l e room_1 s m #[Value.ref b] below meth c s.heap [] 0 0 (lw_Z below #[Value.ref b] s) (entryFrame m ([Value.ref b] : List Value).toArray 7) := by
  obtain ⟨G, X⟩ := g_start C0
  obtain ⟨-, -, -, -, -, -, hX, hbl, -, -⟩ := C0
  have hS : va_S (fun q : Nat => s.heap.size ≤ q) s.heap s.heap [] := va_S.rf
  have hP : va_P G.1 gCl [] s.heap := fun k q h => by simp at h
  have hD : va_D (fun q : Nat => s.heap.size ≤ q) [] := ⟨fun i j p q h => by simp at h, fun k q h => by simp at h⟩
  have hl := lv_entry ([.ref b]) (n := 7) (Nat.le_of_ble_eq_true rfl)
  rw [lg_entry_eq]
  generalize (lg_sl ([.ref b]) ++ List.replicate (7 - (lg_sl ([.ref b])).length) Slot.unset).toArray = ls at hl ⊢
  have hl : lv_has ls 7 [(0, .ref b)] := hl
  refine g_new X hP hD hS 5 (fs := [.null, .int 0, .null, .null, .null, .null, .null]) rfl inX5 tyX5 tyX5_ok (inC1 22 rfl rfl) (inC1 23 rfl rfl) (inC1 1 rfl rfl) (by decide +kernel) (Nat.le_of_ble_eq_true rfl) (Nat.le_of_ble_eq_true rfl) dL_law_0 (fun hPB H hP hD hS => ?_)
  replace hP : va_P G.1 gCl [(hPB, .inr (5, [.null, .int 0, .null, .null, .null, .null, .null]))] H := hP
  replace hD : va_D (fun q : Nat => s.heap.size ≤ q) [(hPB, .inr (5, [.null, .int 0, .null, .null, .null, .null, .null]))] := hD
  refine lv_dup X.1 X.2.1 dL_law_3 rfl ?_
  refine g_cv (wr := []) X [0] [] (g_rC (As := []) (rest := [.ref hPB]) X (c_PB_init l G hPB _) lk_L_29 rfl rfl rfl ⟨Nat.le_of_ble_eq_true rfl, Nat.le_of_ble_eq_true rfl⟩ hP hD hS [0] rfl rfl rfl hl.1 rfl (Nat.le_of_ble_eq_true rfl) dL_law_4 ⟨Nat.le_of_ble_eq_true rfl, Nat.le_of_ble_eq_true rfl⟩) hP hD hS rfl rfl rfl (by decide) (fun u H locs _ hP hD hS => ?_)
  obtain ⟨hTX, hPI, hBO, hBS, hLO, hMA, hMT, hMC, hGL, hBL, hGB, hBB, hSK, hSN, hSE, hSB, hSL, hSP, hSU, hSS⟩ := u
  replace hP : va_P G.1 gCl [cPB hPB hTX 0 hPI hBO hLO hMT hSE, cI G hTX 160 (fun _ => 0), cPI hPI 0 0 0 0 0 0 0 0, cBO hBO 0 0 0 0 0 0 0 hBS 0 0, cI G hBS 64 (fun _ => 0), cLO hLO 0 0 0 hMA 0, cI G hMA 500 (fun _ => 0), cMT hMT hMC hGL hBL hGB hBB hSK hSN, cI G hMC 169 (fun _ => 0), cI G hGL 13 (fun _ => 0), cI G hBL 13 (fun _ => 0), cI G hGB 13 (fun _ => 0), cI G hBB 13 (fun _ => 0), cI G hSK 13 (fun _ => 0), cZ G hSN 13 (fun _ => 0), cSE hSE 0 0 hSB hSL hSP hSU hSS 0 0, cJ G hSB 128 (fun _ => 0), cI G hSL 128 (fun _ => 0), cI G hSP 128 (fun _ => 0), cI G hSU 128 (fun _ => 0), cI G hSS 256 (fun _ => 0)] H := hP
  replace hD : va_D (fun q : Nat => s.heap.size ≤ q) [cPB hPB hTX 0 hPI hBO hLO hMT hSE, cI G hTX 160 (fun _ => 0), cPI hPI 0 0 0 0 0 0 0 0, cBO hBO 0 0 0 0 0 0 0 hBS 0 0, cI G hBS 64 (fun _ => 0), cLO hLO 0 0 0 hMA 0, cI G hMA 500 (fun _ => 0), cMT hMT hMC hGL hBL hGB hBB hSK hSN, cI G hMC 169 (fun _ => 0), cI G hGL 13 (fun _ => 0), cI G hBL 13 (fun _ => 0), cI G hGB 13 (fun _ => 0), cI G hBB 13 (fun _ => 0), cI G hSK 13 (fun _ => 0), cZ G hSN 13 (fun _ => 0), cSE hSE 0 0 hSB hSL hSP hSU hSS 0 0, cJ G hSB 128 (fun _ => 0), cI G hSL 128 (fun _ => 0), cI G hSP 128 (fun _ => 0), cI G hSU 128 (fun _ => 0), cI G hSS 256 (fun _ => 0)] := hD
  refine lv_astore_n (lv' := [(1, .ref hPB), (0, .ref b)]) X.1 X.2.1 dL_law_7 rfl hl (by decide) rfl (fun ls hl => ?_)
  refine g_new X hP hD hS 6 (fs := [.int 0, .int 0, .null, .int 0, .int 0, .int 0, .int 0, .int 0, .int 0, .long 0, .long 0, .long 0, .long 0, .long 0, .long 0, .int 0, .int 0, .int 0, .null, .int 0, .int 0, .int 0, .null, .null, .null, .null, .null, .null, .null, .null]) rfl inX6 tyX6 tyX6_ok (inC3 222 rfl rfl) (inC3 223 rfl rfl) (inC1 7 rfl rfl) (by decide +kernel) (Nat.le_of_ble_eq_true rfl) (Nat.le_of_ble_eq_true rfl) dL_law_8 (fun hMO H hP hD hS => ?_)
  replace hP : va_P G.1 gCl [cPB hPB hTX 0 hPI hBO hLO hMT hSE, cI G hTX 160 (fun _ => 0), cPI hPI 0 0 0 0 0 0 0 0, cBO hBO 0 0 0 0 0 0 0 hBS 0 0, cI G hBS 64 (fun _ => 0), cLO hLO 0 0 0 hMA 0, cI G hMA 500 (fun _ => 0), cMT hMT hMC hGL hBL hGB hBB hSK hSN, cI G hMC 169 (fun _ => 0), cI G hGL 13 (fun _ => 0), cI G hBL 13 (fun _ => 0), cI G hGB 13 (fun _ => 0), cI G hBB 13 (fun _ => 0), cI G hSK 13 (fun _ => 0), cZ G hSN 13 (fun _ => 0), cSE hSE 0 0 hSB hSL hSP hSU hSS 0 0, cJ G hSB 128 (fun _ => 0), cI G hSL 128 (fun _ => 0), cI G hSP 128 (fun _ => 0), cI G hSU 128 (fun _ => 0), cI G hSS 256 (fun _ => 0), (hMO, .inr (6, [.int 0, .int 0, .null, .int 0, .int 0, .int 0, .int 0, .int 0, .int 0, .long 0, .long 0, .long 0, .long 0, .long 0, .long 0, .int 0, .int 0, .int 0, .null, .int 0, .int 0, .int 0, .null, .null, .null, .null, .null, .null, .null, .null]))] H := hP
  replace hD : va_D (fun q : Nat => s.heap.size ≤ q) [cPB hPB hTX 0 hPI hBO hLO hMT hSE, cI G hTX 160 (fun _ => 0), cPI hPI 0 0 0 0 0 0 0 0, cBO hBO 0 0 0 0 0 0 0 hBS 0 0, cI G hBS 64 (fun _ => 0), cLO hLO 0 0 0 hMA 0, cI G hMA 500 (fun _ => 0), cMT hMT hMC hGL hBL hGB hBB hSK hSN, cI G hMC 169 (fun _ => 0), cI G hGL 13 (fun _ => 0), cI G hBL 13 (fun _ => 0), cI G hGB 13 (fun _ => 0), cI G hBB 13 (fun _ => 0), cI G hSK 13 (fun _ => 0), cZ G hSN 13 (fun _ => 0), cSE hSE 0 0 hSB hSL hSP hSU hSS 0 0, cJ G hSB 128 (fun _ => 0), cI G hSL 128 (fun _ => 0), cI G hSP 128 (fun _ => 0), cI G hSU 128 (fun _ => 0), cI G hSS 256 (fun _ => 0), (hMO, .inr (6, [.int 0, .int 0, .null, .int 0, .int 0, .int 0, .int 0, .int 0, .int 0, .long 0, .long 0, .long 0, .long 0, .long 0, .long 0, .int 0, .int 0, .int 0, .null, .int 0, .int 0, .int 0, .null, .null, .null, .null, .null, .null, .null, .null]))] := hD
  refine lv_dup X.1 X.2.1 dL_law_11 rfl ?_
  refine g_cv (wr := [cPB hPB hTX 0 hPI hBO hLO hMT hSE, cI G hTX 160 (fun _ => 0), cPI hPI 0 0 0 0 0 0 0 0, cBO hBO 0 0 0 0 0 0 0 hBS 0 0, cI G hBS 64 (fun _ => 0), cLO hLO 0 0 0 hMA 0, cI G hMA 500 (fun _ => 0), cMT hMT hMC hGL hBL hGB hBB hSK hSN, cI G hMC 169 (fun _ => 0), cI G hGL 13 (fun _ => 0), cI G hBL 13 (fun _ => 0), cI G hGB 13 (fun _ => 0), cI G hBB 13 (fun _ => 0), cI G hSK 13 (fun _ => 0), cZ G hSN 13 (fun _ => 0), cSE hSE 0 0 hSB hSL hSP hSU hSS 0 0, cJ G hSB 128 (fun _ => 0), cI G hSL 128 (fun _ => 0), cI G hSP 128 (fun _ => 0), cI G hSU 128 (fun _ => 0), cI G hSS 256 (fun _ => 0)]) X [21] [0, 1, 2, 3, 4, 5, 6, 7, 8, 9, 10, 11, 12, 13, 14, 15, 16, 17, 18, 19, 20] (g_rC (As := []) (rest := [.ref hMO]) X (c_MO_init l G hMO _) lk_L_32 rfl rfl rfl ⟨Nat.le_of_ble_eq_true rfl, Nat.le_of_ble_eq_true rfl⟩ hP hD hS [21] rfl rfl rfl hl.1 rfl (Nat.le_of_ble_eq_true rfl) dL_law_12 ⟨Nat.le_of_ble_eq_true rfl, Nat.le_of_ble_eq_true rfl⟩) hP hD hS rfl rfl rfl (by decide) (fun u H locs _ hP hD hS => ?_)
  obtain ⟨hTM, hDO, hXB, hXC, hXF, hXY, hXS, hXP, hFA, hLE⟩ := u
  replace hP : va_P G.1 gCl [cPB hPB hTX 0 hPI hBO hLO hMT hSE, cI G hTX 160 (fun _ => 0), cPI hPI 0 0 0 0 0 0 0 0, cBO hBO 0 0 0 0 0 0 0 hBS 0 0, cI G hBS 64 (fun _ => 0), cLO hLO 0 0 0 hMA 0, cI G hMA 500 (fun _ => 0), cMT hMT hMC hGL hBL hGB hBB hSK hSN, cI G hMC 169 (fun _ => 0), cI G hGL 13 (fun _ => 0), cI G hBL 13 (fun _ => 0), cI G hGB 13 (fun _ => 0), cI G hBB 13 (fun _ => 0), cI G hSK 13 (fun _ => 0), cZ G hSN 13 (fun _ => 0), cSE hSE 0 0 hSB hSL hSP hSU hSS 0 0, cJ G hSB 128 (fun _ => 0), cI G hSL 128 (fun _ => 0), cI G hSP 128 (fun _ => 0), cI G hSU 128 (fun _ => 0), cI G hSS 256 (fun _ => 0), cMO hMO 0 0 hTM 0 0 0 0 0 0 0 0 0 0 0 0 0 0 0 hDO 0 0 0 hXB hXC hXF hXY hXS hXP hFA hLE, cI G hTM 160 (fun _ => 0), cI G hDO 500 (fun _ => 0), cJ G hXB 10001 (fun _ => 0), cI G hXC 10001 (fun _ => 0), cI G hXF 10001 (fun _ => 0), cI G hXY 10001 (fun _ => 0), cI G hXS 32768 (fun _ => 0), cI G hXP 10001 (fun _ => 0), cI G hFA 64 (fun _ => 0), cI G hLE 4096 (fun _ => 0)] H := hP
  replace hD : va_D (fun q : Nat => s.heap.size ≤ q) [cPB hPB hTX 0 hPI hBO hLO hMT hSE, cI G hTX 160 (fun _ => 0), cPI hPI 0 0 0 0 0 0 0 0, cBO hBO 0 0 0 0 0 0 0 hBS 0 0, cI G hBS 64 (fun _ => 0), cLO hLO 0 0 0 hMA 0, cI G hMA 500 (fun _ => 0), cMT hMT hMC hGL hBL hGB hBB hSK hSN, cI G hMC 169 (fun _ => 0), cI G hGL 13 (fun _ => 0), cI G hBL 13 (fun _ => 0), cI G hGB 13 (fun _ => 0), cI G hBB 13 (fun _ => 0), cI G hSK 13 (fun _ => 0), cZ G hSN 13 (fun _ => 0), cSE hSE 0 0 hSB hSL hSP hSU hSS 0 0, cJ G hSB 128 (fun _ => 0), cI G hSL 128 (fun _ => 0), cI G hSP 128 (fun _ => 0), cI G hSU 128 (fun _ => 0), cI G hSS 256 (fun _ => 0), cMO hMO 0 0 hTM 0 0 0 0 0 0 0 0 0 0 0 0 0 0 0 hDO 0 0 0 hXB hXC hXF hXY hXS hXP hFA hLE, cI G hTM 160 (fun _ => 0), cI G hDO 500 (fun _ => 0), cJ G hXB 10001 (fun _ => 0), cI G hXC 10001 (fun _ => 0), cI G hXF 10001 (fun _ => 0), cI G hXY 10001 (fun _ => 0), cI G hXS 32768 (fun _ => 0), cI G hXP 10001 (fun _ => 0), cI G hFA 64 (fun _ => 0), cI G hLE 4096 (fun _ => 0)] := hD
  refine lv_astore_n (lv' := [(2, .ref hMO), (1, .ref hPB), (0, .ref b)]) X.1 X.2.1 dL_law_15 rfl hl (by decide) rfl (fun ls hl => ?_)
  refine lv_iconst (v := (1 : Int32)) X.1 X.2.1 dL_law_16 (by decide) ?_
  refine g_newJ X wa_J hP hD hS 1 (by decide) (by decide) (Nat.le_of_ble_eq_true rfl) (Nat.le_of_ble_eq_true rfl) (Nat.le_of_ble_eq_true rfl) dL_law_17 (fun hOUT H hP hD hS => ?_)
  replace hP : va_P G.1 gCl [cPB hPB hTX 0 hPI hBO hLO hMT hSE, cI G hTX 160 (fun _ => 0), cPI hPI 0 0 0 0 0 0 0 0, cBO hBO 0 0 0 0 0 0 0 hBS 0 0, cI G hBS 64 (fun _ => 0), cLO hLO 0 0 0 hMA 0, cI G hMA 500 (fun _ => 0), cMT hMT hMC hGL hBL hGB hBB hSK hSN, cI G hMC 169 (fun _ => 0), cI G hGL 13 (fun _ => 0), cI G hBL 13 (fun _ => 0), cI G hGB 13 (fun _ => 0), cI G hBB 13 (fun _ => 0), cI G hSK 13 (fun _ => 0), cZ G hSN 13 (fun _ => 0), cSE hSE 0 0 hSB hSL hSP hSU hSS 0 0, cJ G hSB 128 (fun _ => 0), cI G hSL 128 (fun _ => 0), cI G hSP 128 (fun _ => 0), cI G hSU 128 (fun _ => 0), cI G hSS 256 (fun _ => 0), cMO hMO 0 0 hTM 0 0 0 0 0 0 0 0 0 0 0 0 0 0 0 hDO 0 0 0 hXB hXC hXF hXY hXS hXP hFA hLE, cI G hTM 160 (fun _ => 0), cI G hDO 500 (fun _ => 0), cJ G hXB 10001 (fun _ => 0), cI G hXC 10001 (fun _ => 0), cI G hXF 10001 (fun _ => 0), cI G hXY 10001 (fun _ => 0), cI G hXS 32768 (fun _ => 0), cI G hXP 10001 (fun _ => 0), cI G hFA 64 (fun _ => 0), cI G hLE 4096 (fun _ => 0), cJ G hOUT 1 (fun _ => 0)] H := hP
  replace hD : va_D (fun q : Nat => s.heap.size ≤ q) [cPB hPB hTX 0 hPI hBO hLO hMT hSE, cI G hTX 160 (fun _ => 0), cPI hPI 0 0 0 0 0 0 0 0, cBO hBO 0 0 0 0 0 0 0 hBS 0 0, cI G hBS 64 (fun _ => 0), cLO hLO 0 0 0 hMA 0, cI G hMA 500 (fun _ => 0), cMT hMT hMC hGL hBL hGB hBB hSK hSN, cI G hMC 169 (fun _ => 0), cI G hGL 13 (fun _ => 0), cI G hBL 13 (fun _ => 0), cI G hGB 13 (fun _ => 0), cI G hBB 13 (fun _ => 0), cI G hSK 13 (fun _ => 0), cZ G hSN 13 (fun _ => 0), cSE hSE 0 0 hSB hSL hSP hSU hSS 0 0, cJ G hSB 128 (fun _ => 0), cI G hSL 128 (fun _ => 0), cI G hSP 128 (fun _ => 0), cI G hSU 128 (fun _ => 0), cI G hSS 256 (fun _ => 0), cMO hMO 0 0 hTM 0 0 0 0 0 0 0 0 0 0 0 0 0 0 0 hDO 0 0 0 hXB hXC hXF hXY hXS hXP hFA hLE, cI G hTM 160 (fun _ => 0), cI G hDO 500 (fun _ => 0), cJ G hXB 10001 (fun _ => 0), cI G hXC 10001 (fun _ => 0), cI G hXF 10001 (fun _ => 0), cI G hXY 10001 (fun _ => 0), cI G hXS 32768 (fun _ => 0), cI G hXP 10001 (fun _ => 0), cI G hFA 64 (fun _ => 0), cI G hLE 4096 (fun _ => 0), cJ G hOUT 1 (fun _ => 0)] := hD
  refine lv_astore_n (lv' := [(3, .ref hOUT), (2, .ref hMO), (1, .ref hPB), (0, .ref b)]) X.1 X.2.1 dL_law_19 rfl hl (by decide) rfl (fun ls hl => ?_)
  refine lv_iconst (v := (0 : Int32)) X.1 X.2.1 dL_law_20 (by decide) ?_
  refine lv_istore (lv' := [(4, .int (0 : Int32)), (3, .ref hOUT), (2, .ref hMO), (1, .ref hPB), (0, .ref b)]) X.1 X.2.1 dL_law_21 hl (by decide) rfl (fun ls hl => ?_)
  obtain ⟨n, h⟩ := pure_law L hL xs
  refine W.widen (k := 33) (n := 89409) (Nat.le_of_ble_eq_true rfl) (Nat.le_of_ble_eq_true rfl) ?_
  exact s_LW_law_23 X hl0 hX hbl (fun r _ _ _ _ _ _ _ _ _ _ _ _ _ _ _ _ _ _ _ _ _ _ _ _ _ _ _ _ _ _ _ _ _ _ _ _ _ _ _ _ _ _ _ _ _ _ _ _ _ _ _ _ _ _ _ _ _ _ _ _ _ _ _ _ _ _ _ _ _ _ _ _ _ _ _ _ _ h => h) n 600991 7203625 0 (fun _ => 0) 0 0 0 0 0 0 0 0 0 0 0 0 0 0 0 0 0 (fun _ => 0) 0 0 0 0 (fun _ => 0) (fun _ => 0) (fun _ => 0) (fun _ => 0) (fun _ => 0) (fun _ => 0) (fun _ => 0) (fun _ => 0) 0 0 0 0 128 (fun _ => 0) 128 (fun _ => 0) 128 (fun _ => 0) 128 (fun _ => 0) 256 (fun _ => 0) 0 0 0 0 0 0 0 0 0 0 0 0 0 0 0 0 0 0 0 0 (fun _ => 0) (fun _ => 0) (fun _ => 0) (fun _ => 0) (fun _ => 0) (fun _ => 0) (fun _ => 0) (fun _ => 0) (fun _ => 0) (fun _ => 0) (fun _ => 0) 0 hSB hSL hSP hSU hSS 33 89409 _ _ _ h (Nat.le_of_ble_eq_true rfl) (Nat.le_of_ble_eq_true rfl) hP hD hS (lv_sub hl [4, 3, 2, 1, 0] rfl)
set_option maxHeartbeats 4000000 in
theorem lw_walk (l : Launch) (hl0 : l.stackTraces = false) (b : Addr) (xs : List Int32) : MetFree l x (headSpec (Jvm.Cond.code x code maxLocals ret :: tables_1) room_1) (lw_P b xs) (fun _ _ _ _ _ => True) lw_Q := by
  refine MetFree.of_bodyS (code := code) (maxLocals := maxLocals) (ret := ret) (by decide) ?_ ?_
  · intro args s m h hn
    obtain ⟨meth, c, h1, h2, h3, h4, h5, h6, -, -⟩ := Cond.code_spec hn (atoms_spec (ws := Jvm.Cond.code x code maxLocals ret :: tables_1) h _ List.mem_cons_self)
    exact ⟨meth, c, h1, h2, h3, h4, h5, h6⟩
  · intro p e s m args below meth c s₁ B hml0 hP _
    obtain ⟨rfl, hx, hbd, hgv⟩ := hP
    obtain ⟨scr, harrAt, hlist, hof, hsmall⟩ := hx
    obtain ⟨hcb, hkn, -, -⟩ := State.arrayAt?_spec harrAt
    have hown : s.vm.findClass R_law = some m.cls := findClass_of_methodNamed B.named
    have hts0 : ∀ c ∈ (Jvm.Cond.code x code maxLocals ret :: tables_1), c.before #[Value.ref b] s = true := atoms_spec (ws := Jvm.Cond.code x code maxLocals ret :: tables_1) B.pre
    have hts : ∀ w ∈ lw_tbl, w.before #[Value.ref b] s = true := k2_hts_sels lw_privs (fun w hw => hts0 w (List.mem_cons_of_mem _ hw)) lw_privs_ok
    have hml : c.maxLocals = 7 := B.maxLocals_eq (hts0 _ List.mem_cons_self)
    have X₀ : Stand p l e room_1 s m #[Value.ref b] below meth c s₁ [] 0 0 := Stand.of_body B
    have hh0 : s₁.heap = s.heap := by rw [B.state]; rfl
    have hsz : scr.slots.size = xs.length := by rw [← Array.length_toList, hlist, List.length_map]
    have hval : ∀ j : Nat, j < xs.length → scr.slots[j]? = some (.int (xs.getD j 0)) := fun j hj => by
      rw [← Array.getElem?_toList, hlist]
      simp [hj]
    have hbl : b < s.heap.size := (Array.getElem?_eq_some_iff.mp hcb).1
    have hX : va_X b xs.length (fun j => xs.getD j 0) s s.heap := ⟨scr, hcb, hof, hkn, hsz, hval⟩
    have K : W p l e room_1 s m #[Value.ref b] below meth c s₁.heap [] 0 0 (lw_Z below #[Value.ref b] s) (entryFrame m ([Value.ref b] : List Value).toArray 7) := by
      rw [hh0]
      exact whole_start l hl0 hbd ⟨B.exec, B.bytes, B.returns, hml, hown, hts, hX, hbl, B.notSynchronized, hgv⟩
    obtain ⟨t, a1, o, b1, b2, b3⟩ := K s₁ rfl X₀
    exact ⟨t, o, a1, b1, b2, b3⟩
theorem lw_pre_spec {args : Array Value} {s : State} (h : (Jvm.Cond.and given_1 narrow_1).before args s = true) (hr : rest_1_c.before args s = true) : ∃ (b : Addr) (xs : List Int32), lw_P b xs args s := by
  have hs := flat_of_before _ h
  have hq := flat_of_before _ hr
  have hc : (Cond.count 1).before args s = true := hs _ (by decide +kernel)
  have harr : (Cond.arrayOf (.arg 0) .int).before args s = true := hs _ (by decide +kernel)
  have hle : (Cond.le (.length (.arg 0)) (.int 2560)).before args s = true := hs _ (by decide +kernel)
  have hlen : (Cond.isInt (.length (.arg 0))).before args s = true := hq _ (by decide +kernel)
  have hall : (Cond.all (.arg 0) (.isInt (.elem (.arg 0) (.index 0)))).before args s = true := hq _ (by decide +kernel)
  obtain ⟨b, xs, hb, hx⟩ := State.ints_of_pre rfl harr hlen hall
  have hsm : xs.length < 2 ^ 31 := hx.choose_spec.2.2.2
  have hev : (Term.length (.arg 0)).eval args s none [] s = some (.int xs.length.toInt32) := hx.length_eval hb
  have hv := Cond.le_ints hev (show (Term.int 2560).eval args s none [] s = some (.int 2560) from rfl)
  have hd : xs.length.toInt32 ≤ 2560 := by
    simpa [Cond.before, Cond.holds, hv] using hle
  have hN : xs.length ≤ 2560 := (Int32.ofNat_le_ofNat hsm (by decide)).mp (show Int32.ofNat xs.length ≤ Int32.ofNat 2560 from hd)
  exact ⟨b, xs, Cond.one_arg hc (show args[0]? = some (.ref b) from hb), hx, hN, h⟩
theorem lw_comes (l : Launch) (hl0 : l.stackTraces = false) : Comes l x (Jvm.Cond.code x code maxLocals ret :: tables_1) room_1 (fun tb e args s => Calls_1 tb e args s ∧ rest_1 tb e args s ∧ Pre_1 tb e args s)
    (fun _ _ args s o t => lw_Q args s o t) := by
  intro p e ha hc hk s m args below hf hfit hheap happ hpre
  obtain ⟨b, xs, hP⟩ := lw_pre_spec hpre.2.2 hpre.2.1
  obtain ⟨k, o, h1, h2, h3, hQ⟩ := lw_walk l hl0 b xs p e ha hc hk s m args below hf ((Spec.applies_iff_loose hf).mp happ).1 hP trivial
  exact ⟨k, o, h1, h2, h3, hQ⟩
theorem lw_frame {s t : State} {o : Outcome} {args : Array Value} (h : Framed s o t [] 601024 7293034) :
    Framed s o t (fieldLocs frame_1_writes args s ++ arrayLocs frame_1_arrays args s ++ staticLocs frame_1_statics s) 601024 7293034 := h
theorem lw_limb (L : Cond) (hL : ∀ (args : Array Value) (s t : State), L.after args s (.returned (some (.int 1))) t = true) :
    ArmFor flags0 classFile x code maxLocals ret World_1 tables_1 room_1 Calls_1 rest_1 Pre_1
      (fun tb e a s o t => postC L tb e a s o t ∧ Framed s o t (fieldLocs frame_1_writes a s ++ arrayLocs frame_1_arrays a s ++ staticLocs frame_1_statics s) 601024 7293034) := by
  intro l hfl _ _ p e ha hc hk s m args below hf hfit hheap happ hpre
  obtain ⟨k, o, h1, h2, h3, rfl, hF⟩ := lw_comes l (by rw [Launch.stackTraces, hfl]; decide +kernel) p e ha hc hk s m args below hf hfit hheap happ hpre
  exact ⟨k, _, h1, h2, h3, hL args s _, lw_frame hF⟩
theorem i_vc : Claimed_1_1 ∧ Claimed_1_2 := ⟨lw_limb limb_1_1 (fun args s t => by simp [limb_1_1, Cond.after, Cond.holds, Cond.value]), lw_limb limb_1_2 (fun args s t => Cond.after_iff.mpr (by
  first | (rw [show limb_1_2 = Cond.eq .result (.int 1) from rfl, Cond.eq_ints (x := 1) (y := 1) rfl rfl]; simp; done) | (simp [limb_1_2, Cond.value, Term.eval]; done)))⟩

