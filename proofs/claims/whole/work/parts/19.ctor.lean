theorem wo_i : Cond.instanceMethod Lib.objectInit ∈ wAll := inC1 28 rfl rfl
theorem wo_c : Cond.code Lib.objectInit ⟨#[0xb1]⟩ 1 none ∈ wAll := inC1 29 rfl rfl
section GT
variable {p : Program} {l : Launch} {e : Env} {R : Room} {s : State} {m : MethodId} {args : Array Value} {below : List Frame} {meth : Method} {c : Code} {H : Heap} {locs : List Loc} {cells slots : Nat} {Q : State → Prop}
variable {cc : ByteArray} {nL : Nat} {own : String} {ret : Option FieldType} {G : gEnv} {A : Nat → Prop} {pc : Nat} {ls : Array Slot} {rest : List Value} {ws : va_W} {a : Nat}
theorem g_objInit (X : gX p m meth c cc nL own ret s args G A) {idx : Nat} (hlink : Cond.methodLink own idx Lib.objectInit ∈ wAll) (hz : ls.size = nL) (hdg : decode cc pc = .ok (.invokespecial idx, 3)) (hframes : 1 ≤ R.frames) (hlocals : (rest.map fun v => v.category).sum + 12 ≤ R.locals)
    (kk : W p l e R s m args below meth c H locs cells slots Q (F0 m (pc + 3) ls rest)) : W p l e R s m args below meth c H locs cells slots Q (F0 m pc ls (.ref a :: rest)) :=
  W.objInit X.1 X.2.1 X.2.2.2.1 (X.2.2.2.2.1 _ hlink) (X.2.2.2.2.1 _ wo_i) (X.2.2.2.2.1 _ wo_c) rfl (hz.trans X.2.2.1.symm) rfl hdg hframes (by show 2 * 0 + _ + 12 ≤ _; omega) kk
theorem g_putF (X : gX p m meth c cc nL own ret s args G A) (hinit : meth.name = "<init>") (hP : va_P G.1 gCl ws H) (hD : va_D A ws) (hS : va_S A s.heap H locs) (q0 ci k : Nat) {C : String} {T : u_T} {N index : Nat} {fs : List Value} {v : Value} {ty : FieldType} (he : ws[q0]? = some (a, .inr (ci, fs))) (hc : gCl[ci]? = some (C, T, N)) (hin : ∀ w ∈ u_ws C T N, w ∈ wAll) (ty0 : Nat → FieldType) (hty : ∀ k, k < N → parseFieldDescriptor (T k).2.2.1 = some (ty0 k)) (hnm : ∀ a, a < N → ∀ b, b < N → a ≠ b → (T a).2.1 ≠ (T b).2.1) (hk : k < N) (hl : Cond.fieldLink own index (T k).1 (T k).2.1 (T k).2.2.1 ∈ wAll) (hfin : (T k).2.2.2 = true) (hdecl : (T k).1 = own) (hd : ty0 k = ty) (hn : narrow ty v = v) (hfit : fits ty v = true) (hlen : k < fs.length) (hdg : decode cc pc = .ok (.putfield index, 3))
    (kk : ∀ (H1 : Heap) (locs1 : List Loc), va_P G.1 gCl (ws.set q0 (a, .inr (ci, fs.set k v))) H1 → va_D A (ws.set q0 (a, .inr (ci, fs.set k v))) → va_S A s.heap H1 locs1 → W p l e R s m args below meth c H1 locs1 cells slots Q (F0 m (pc + 3) ls rest)) : W p l e R s m args below meth c H locs cells slots Q (F0 m pc ls (v :: .ref a :: rest)) :=
  va_putF (D := G.1) X.1 X.2.1 X.2.2.2.2.1 hin ty0 hty hnm X.2.2.2.1 X.k.1 hP hD hS q0 he hc k hk (X.2.2.2.2.1 _ hl) (fun _ h9 => h9) hfin hinit hdecl (by rw [hty k hk, hd]) hn hfit hlen hdg kk
theorem g_new (X : gX p m meth c cc nL own ret s args G A) (hP : va_P G.1 gCl ws H) (hD : va_D A ws) (hS : va_S A s.heap H locs) (ci : Nat) {C : String} {T : u_T} {N index : Nat} {fs : List Value} (hc : gCl[ci]? = some (C, T, N)) (hin : ∀ w ∈ u_ws C T N, w ∈ wAll) (ty0 : Nat → FieldType) (hty : ∀ k, k < N → parseFieldDescriptor (T k).2.2.1 = some (ty0 k)) (h1 : Cond.classLink own index C ∈ wAll) (h2 : Cond.instantiable C N ∈ wAll) (h3 : Cond.initialized C ∈ wAll) (hfs : ∀ j, j < N → defaultValue (ty0 j) = vp_V fs j) (hcells : cells + 1 ≤ R.cells) (hslots : slots + N ≤ R.slots) (hdg : decode cc pc = .ok (.new index, 3))
    (kk : ∀ (q : Nat) (H1 : Heap), va_P G.1 gCl (ws ++ [(q, .inr (ci, fs))]) H1 → va_D A (ws ++ [(q, .inr (ci, fs))]) → va_S A s.heap H1 locs → W p l e R s m args below meth c H1 locs (cells + 1) (slots + N) Q (F0 m (pc + 3) ls (.ref q :: rest))) : W p l e R s m args below meth c H locs cells slots Q (F0 m pc ls rest) :=
  va_new (D := G.1) X.1 X.2.1 X.2.2.2.2.1 hin ty0 hty X.2.2.2.1 (X.2.2.2.2.1 _ h1) (X.2.2.2.2.1 _ h2) (X.2.2.2.2.1 _ h3) X.k.1 hP hD hS X.hA hc hfs hcells hslots hdg kk
variable {y : MethodName} {bytes : ByteArray} {maxL mc ms n index : Nat} {rt : Option FieldType} {rm : Room} {Qc : Array Value → State → Outcome → State → Prop} {free : Addr → Prop} {b : Addr} {As : List Value} {wc wr : va_W} {st0 : List Value}
theorem g_rC (X : gX p m meth c cc nL own ret s args G A) (hM : Met l y (Cond.code y bytes maxL none :: wAll) rm (gPc G (.ref b :: As) wc H.size) Qc mc ms free) (k : gLC own index y bytes maxL none n) (hy1 : y.name = "<init>") (hrc : rm.cells = mc) (hrs : rm.slots = ms) (hR : rm.frames + 1 ≤ R.frames ∧ 8 + (maxL + 11) + rm.locals ≤ R.locals)
    (hP : va_P G.1 gCl ws H) (hD : va_D A ws) (hS : va_S A s.heap H locs) (isC : List Nat) (hC : isC.map (fun i => ws[i]?) = wc.map some) (hnd : va_nd isC = true)
    (hn : As.length = n) (hsize : ls.size = nL) (hstack : st0 = As.reverse ++ .ref b :: rest) (hW : (rest.map fun v => v.category).sum ≤ 8) (hdg : decode cc pc = .ok (.invokespecial index, 3)) (hf : cells + mc ≤ R.cells ∧ slots + ms ≤ R.slots) :
    va_Run p l e R s m args below meth c H locs cells slots mc ms (F0 m pc ls st0) rest (Qc (Value.ref b :: As).toArray) free := by
  have hts := X.2.2.2.2.1
  exact va_runI X.fix hM ⟨⟨hrc, hrs, hR.1, hR.2, g_pay X k.2.2.1, List.mem_cons_self, hts _ k.2.2.1, hts _ k.2.1, ⟨k.2.2.2.1, k.2.2.2.2.1⟩, g_sig k.2.2.2.2.2, hts _ k.1.1⟩, hy1, hts _ k.1.2⟩ ⟨gPc.blind, g_pre X hP hD hS isC hC hnd⟩ rfl hn hsize hstack (lv_room hW) hdg hf
end GT
abbrev rm_PI_init : Room := { frames := 1, cells := 0, slots := 0, locals := 40 }
set_option maxHeartbeats 4000000 in
set_option maxRecDepth 100000 in
theorem c_PI_init (l : Launch) (G : gEnv) (hPI : Nat) (sz : Nat) : Met l yX3_init (Cond.code yX3_init cX3_init 1 none :: wAll) rm_PI_init (gPc G [.ref hPI] [(hPI, .inr (3, [.int 0, .int 0, .long 0, .long 0, .long 0, .long 0, .int 0, .int 0]))] sz) (gQv G (fun (_ : Unit) => True) (fun (u : Unit) => [cPI hPI 0 0 0 0 0 0 0 0]) (va_A [(hPI, .inr (3, [.int 0, .int 0, .long 0, .long 0, .long 0, .long 0, .int 0, .int 0]))] sz)) 0 0 (va_A [(hPI, .inr (3, [.int 0, .int 0, .long 0, .long 0, .long 0, .long 0, .int 0, .int 0]))] sz) := by
  refine Met.ofW (cc := cX3_init) (maxL := 1) (ret := none) (by decide) rfl ?_
  intro p e s m args below meth c s₁ B hml hv
  obtain ⟨rfl, hsz, hP, hK, hD0⟩ := hv
  subst hsz
  have X := gX.ofB (ws := [(hPI, .inr (3, [.int 0, .int 0, .long 0, .long 0, .long 0, .long 0, .int 0, .int 0]))]) B hml hK hD0
  have hin : meth.name = "<init>" := (name_of_methodNamed B.named B.method).1
  have hD := hD0.self (sz := s.heap.size)
  generalize hAe : va_A [(hPI, .inr (3, [.int 0, .int 0, .long 0, .long 0, .long 0, .long 0, .int 0, .int 0]))] s.heap.size = A at X hD ⊢
  have hS : va_S A s.heap s.heap [] := va_S.rf
  have hl := lv_entry ([.ref hPI]) (n := 1) (Nat.le_of_ble_eq_true rfl)
  rw [lg_entry_eq]
  generalize (lg_sl ([.ref hPI]) ++ List.replicate (1 - (lg_sl ([.ref hPI])).length) Slot.unset).toArray = ls at hl ⊢
  have hl : lv_has ls 1 [(0, .ref hPI)] := hl
  dsimp only [headSpec]
  refine lv_aload_n X.1 X.2.1 dX3_init_0 rfl (lv_at hl 0 rfl) ?_
  refine g_objInit X ww_35 hl.1 dX3_init_1 (Nat.le_of_ble_eq_true rfl) (Nat.le_of_ble_eq_true rfl) ?_
  refine W.widen (k := 0) (n := 0) (Nat.le_of_ble_eq_true rfl) (Nat.le_of_ble_eq_true rfl) ?_
  exact g_vret X () trivial hP hD hS dX3_init_4
abbrev rm_BO_init : Room := { frames := 1, cells := 1, slots := 64, locals := 40 }
set_option maxHeartbeats 4000000 in
set_option maxRecDepth 100000 in
theorem c_BO_init (l : Launch) (G : gEnv) (hBO : Nat) (sz : Nat) : Met l yX0_init (Cond.code yX0_init cX0_init 1 none :: wAll) rm_BO_init (gPc G [.ref hBO] [(hBO, .inr (0, [.int 0, .int 0, .long 0, .long 0, .long 0, .long 0, .long 0, .null, .long 0, .long 0]))] sz) (gQv G (fun (_ : Nat) => True) (fun (u : Nat) => [cBO hBO 0 0 0 0 0 0 0 (u) 0 0, cI G (u) 64 (fun _ => 0)]) (va_A [(hBO, .inr (0, [.int 0, .int 0, .long 0, .long 0, .long 0, .long 0, .long 0, .null, .long 0, .long 0]))] sz)) 1 64 (va_A [(hBO, .inr (0, [.int 0, .int 0, .long 0, .long 0, .long 0, .long 0, .long 0, .null, .long 0, .long 0]))] sz) := by
  refine Met.ofW (cc := cX0_init) (maxL := 1) (ret := none) (by decide) rfl ?_
  intro p e s m args below meth c s₁ B hml hv
  obtain ⟨rfl, hsz, hP, hK, hD0⟩ := hv
  subst hsz
  have X := gX.ofB (ws := [(hBO, .inr (0, [.int 0, .int 0, .long 0, .long 0, .long 0, .long 0, .long 0, .null, .long 0, .long 0]))]) B hml hK hD0
  have hin : meth.name = "<init>" := (name_of_methodNamed B.named B.method).1
  have hD := hD0.self (sz := s.heap.size)
  generalize hAe : va_A [(hBO, .inr (0, [.int 0, .int 0, .long 0, .long 0, .long 0, .long 0, .long 0, .null, .long 0, .long 0]))] s.heap.size = A at X hD ⊢
  have hS : va_S A s.heap s.heap [] := va_S.rf
  have hl := lv_entry ([.ref hBO]) (n := 1) (Nat.le_of_ble_eq_true rfl)
  rw [lg_entry_eq]
  generalize (lg_sl ([.ref hBO]) ++ List.replicate (1 - (lg_sl ([.ref hBO])).length) Slot.unset).toArray = ls at hl ⊢
  have hl : lv_has ls 1 [(0, .ref hBO)] := hl
  dsimp only [headSpec]
  refine lv_aload_n X.1 X.2.1 dX0_init_0 rfl (lv_at hl 0 rfl) ?_
  refine g_objInit X ww_73 hl.1 dX0_init_1 (Nat.le_of_ble_eq_true rfl) (Nat.le_of_ble_eq_true rfl) ?_
  refine lv_aload_n X.1 X.2.1 dX0_init_4 rfl (lv_at hl 0 rfl) ?_
  refine lv_bipush (v := (64 : Int32)) X.1 X.2.1 dX0_init_5 (by decide) ?_
  refine g_newI X wa_I hP hD hS 64 (by decide) (by decide) (Nat.le_of_ble_eq_true rfl) (Nat.le_of_ble_eq_true rfl) (Nat.le_of_ble_eq_true rfl) dX0_init_7 (fun hBS H hP hD hS => ?_)
  replace hP : va_P G.1 gCl [(hBO, .inr (0, [.int 0, .int 0, .long 0, .long 0, .long 0, .long 0, .long 0, .null, .long 0, .long 0])), cI G hBS 64 (fun _ => 0)] H := hP
  replace hD : va_D A [(hBO, .inr (0, [.int 0, .int 0, .long 0, .long 0, .long 0, .long 0, .long 0, .null, .long 0, .long 0])), cI G hBS 64 (fun _ => 0)] := hD
  refine g_putF X hin hP hD hS 0 0 7 (v := .ref hBS) rfl rfl inX0 tyX0 tyX0_ok nmX0 (by decide) fl_X0_9 rfl rfl rfl rfl rfl (Nat.le_of_ble_eq_true rfl) dX0_init_9 (fun H locs hP hD hS => ?_)
  replace hP : va_P G.1 gCl [(hBO, .inr (0, [.int 0, .int 0, .long 0, .long 0, .long 0, .long 0, .long 0, .ref hBS, .long 0, .long 0])), cI G hBS 64 (fun _ => 0)] H := hP
  replace hD : va_D A [(hBO, .inr (0, [.int 0, .int 0, .long 0, .long 0, .long 0, .long 0, .long 0, .ref hBS, .long 0, .long 0])), cI G hBS 64 (fun _ => 0)] := hD
  refine W.widen (k := 1) (n := 64) (Nat.le_of_ble_eq_true rfl) (Nat.le_of_ble_eq_true rfl) ?_
  exact g_vret X (hBS) trivial hP hD hS dX0_init_12
abbrev rm_LO_init : Room := { frames := 1, cells := 1, slots := 500, locals := 40 }
set_option maxHeartbeats 4000000 in
set_option maxRecDepth 100000 in
theorem c_LO_init (l : Launch) (G : gEnv) (hLO : Nat) (sz : Nat) : Met l yX1_init (Cond.code yX1_init cX1_init 1 none :: wAll) rm_LO_init (gPc G [.ref hLO] [(hLO, .inr (1, [.int 0, .int 0, .int 0, .null, .int 0]))] sz) (gQv G (fun (_ : Nat) => True) (fun (u : Nat) => [cLO hLO 0 0 0 (u) 0, cI G (u) 500 (fun _ => 0)]) (va_A [(hLO, .inr (1, [.int 0, .int 0, .int 0, .null, .int 0]))] sz)) 1 500 (va_A [(hLO, .inr (1, [.int 0, .int 0, .int 0, .null, .int 0]))] sz) := by
  refine Met.ofW (cc := cX1_init) (maxL := 1) (ret := none) (by decide) rfl ?_
  intro p e s m args below meth c s₁ B hml hv
  obtain ⟨rfl, hsz, hP, hK, hD0⟩ := hv
  subst hsz
  have X := gX.ofB (ws := [(hLO, .inr (1, [.int 0, .int 0, .int 0, .null, .int 0]))]) B hml hK hD0
  have hin : meth.name = "<init>" := (name_of_methodNamed B.named B.method).1
  have hD := hD0.self (sz := s.heap.size)
  generalize hAe : va_A [(hLO, .inr (1, [.int 0, .int 0, .int 0, .null, .int 0]))] s.heap.size = A at X hD ⊢
  have hS : va_S A s.heap s.heap [] := va_S.rf
  have hl := lv_entry ([.ref hLO]) (n := 1) (Nat.le_of_ble_eq_true rfl)
  rw [lg_entry_eq]
  generalize (lg_sl ([.ref hLO]) ++ List.replicate (1 - (lg_sl ([.ref hLO])).length) Slot.unset).toArray = ls at hl ⊢
  have hl : lv_has ls 1 [(0, .ref hLO)] := hl
  dsimp only [headSpec]
  refine lv_aload_n X.1 X.2.1 dX1_init_0 rfl (lv_at hl 0 rfl) ?_
  refine g_objInit X ww_121 hl.1 dX1_init_1 (Nat.le_of_ble_eq_true rfl) (Nat.le_of_ble_eq_true rfl) ?_
  refine lv_aload_n X.1 X.2.1 dX1_init_4 rfl (lv_at hl 0 rfl) ?_
  refine lv_sipush (v := (500 : Int32)) X.1 X.2.1 dX1_init_5 (by decide) ?_
  refine g_newI X wa_I hP hD hS 500 (by decide) (by decide) (Nat.le_of_ble_eq_true rfl) (Nat.le_of_ble_eq_true rfl) (Nat.le_of_ble_eq_true rfl) dX1_init_8 (fun hMA H hP hD hS => ?_)
  replace hP : va_P G.1 gCl [(hLO, .inr (1, [.int 0, .int 0, .int 0, .null, .int 0])), cI G hMA 500 (fun _ => 0)] H := hP
  replace hD : va_D A [(hLO, .inr (1, [.int 0, .int 0, .int 0, .null, .int 0])), cI G hMA 500 (fun _ => 0)] := hD
  refine g_putF X hin hP hD hS 0 1 3 (v := .ref hMA) rfl rfl inX1 tyX1 tyX1_ok nmX1 (by decide) fl_X1_9 rfl rfl rfl rfl rfl (Nat.le_of_ble_eq_true rfl) dX1_init_10 (fun H locs hP hD hS => ?_)
  replace hP : va_P G.1 gCl [(hLO, .inr (1, [.int 0, .int 0, .int 0, .ref hMA, .int 0])), cI G hMA 500 (fun _ => 0)] H := hP
  replace hD : va_D A [(hLO, .inr (1, [.int 0, .int 0, .int 0, .ref hMA, .int 0])), cI G hMA 500 (fun _ => 0)] := hD
  refine W.widen (k := 1) (n := 500) (Nat.le_of_ble_eq_true rfl) (Nat.le_of_ble_eq_true rfl) ?_
  exact g_vret X (hMA) trivial hP hD hS dX1_init_13
abbrev rm_MT_init : Room := { frames := 1, cells := 7, slots := 247, locals := 40 }
set_option maxHeartbeats 4000000 in
set_option maxRecDepth 100000 in
theorem c_MT_init (l : Launch) (G : gEnv) (hMT : Nat) (sz : Nat) : Met l yX2_init (Cond.code yX2_init cX2_init 1 none :: wAll) rm_MT_init (gPc G [.ref hMT] [(hMT, .inr (2, [.null, .null, .null, .null, .null, .null, .null]))] sz) (gQv G (fun (_ : Nat × Nat × Nat × Nat × Nat × Nat × Nat) => True) (fun (u : Nat × Nat × Nat × Nat × Nat × Nat × Nat) => [cMT hMT (u.1) (u.2.1) (u.2.2.1) (u.2.2.2.1) (u.2.2.2.2.1) (u.2.2.2.2.2.1) (u.2.2.2.2.2.2), cI G (u.1) 169 (fun _ => 0), cI G (u.2.1) 13 (fun _ => 0), cI G (u.2.2.1) 13 (fun _ => 0), cI G (u.2.2.2.1) 13 (fun _ => 0), cI G (u.2.2.2.2.1) 13 (fun _ => 0), cI G (u.2.2.2.2.2.1) 13 (fun _ => 0), cZ G (u.2.2.2.2.2.2) 13 (fun _ => 0)]) (va_A [(hMT, .inr (2, [.null, .null, .null, .null, .null, .null, .null]))] sz)) 7 247 (va_A [(hMT, .inr (2, [.null, .null, .null, .null, .null, .null, .null]))] sz) := by
  refine Met.ofW (cc := cX2_init) (maxL := 1) (ret := none) (by decide) rfl ?_
  intro p e s m args below meth c s₁ B hml hv
  obtain ⟨rfl, hsz, hP, hK, hD0⟩ := hv
  subst hsz
  have X := gX.ofB (ws := [(hMT, .inr (2, [.null, .null, .null, .null, .null, .null, .null]))]) B hml hK hD0
  have hin : meth.name = "<init>" := (name_of_methodNamed B.named B.method).1
  have hD := hD0.self (sz := s.heap.size)
  generalize hAe : va_A [(hMT, .inr (2, [.null, .null, .null, .null, .null, .null, .null]))] s.heap.size = A at X hD ⊢
  have hS : va_S A s.heap s.heap [] := va_S.rf
  have hl := lv_entry ([.ref hMT]) (n := 1) (Nat.le_of_ble_eq_true rfl)
  rw [lg_entry_eq]
  generalize (lg_sl ([.ref hMT]) ++ List.replicate (1 - (lg_sl ([.ref hMT])).length) Slot.unset).toArray = ls at hl ⊢
  have hl : lv_has ls 1 [(0, .ref hMT)] := hl
  dsimp only [headSpec]
  refine lv_aload_n X.1 X.2.1 dX2_init_0 rfl (lv_at hl 0 rfl) ?_
  refine g_objInit X ww_146 hl.1 dX2_init_1 (Nat.le_of_ble_eq_true rfl) (Nat.le_of_ble_eq_true rfl) ?_
  refine lv_aload_n X.1 X.2.1 dX2_init_4 rfl (lv_at hl 0 rfl) ?_
  refine lv_sipush (v := (169 : Int32)) X.1 X.2.1 dX2_init_5 (by decide) ?_
  refine g_newI X wa_I hP hD hS 169 (by decide) (by decide) (Nat.le_of_ble_eq_true rfl) (Nat.le_of_ble_eq_true rfl) (Nat.le_of_ble_eq_true rfl) dX2_init_8 (fun hMC H hP hD hS => ?_)
  replace hP : va_P G.1 gCl [(hMT, .inr (2, [.null, .null, .null, .null, .null, .null, .null])), cI G hMC 169 (fun _ => 0)] H := hP
  replace hD : va_D A [(hMT, .inr (2, [.null, .null, .null, .null, .null, .null, .null])), cI G hMC 169 (fun _ => 0)] := hD
  refine g_putF X hin hP hD hS 0 2 0 (v := .ref hMC) rfl rfl inX2 tyX2 tyX2_ok nmX2 (by decide) fl_X2_11 rfl rfl rfl rfl rfl (Nat.le_of_ble_eq_true rfl) dX2_init_10 (fun H locs hP hD hS => ?_)
  replace hP : va_P G.1 gCl [(hMT, .inr (2, [.ref hMC, .null, .null, .null, .null, .null, .null])), cI G hMC 169 (fun _ => 0)] H := hP
  replace hD : va_D A [(hMT, .inr (2, [.ref hMC, .null, .null, .null, .null, .null, .null])), cI G hMC 169 (fun _ => 0)] := hD
  refine lv_aload_n X.1 X.2.1 dX2_init_13 rfl (lv_at hl 0 rfl) ?_
  refine lv_bipush (v := (13 : Int32)) X.1 X.2.1 dX2_init_14 (by decide) ?_
  refine g_newI X wa_I hP hD hS 13 (by decide) (by decide) (Nat.le_of_ble_eq_true rfl) (Nat.le_of_ble_eq_true rfl) (Nat.le_of_ble_eq_true rfl) dX2_init_16 (fun hGL H hP hD hS => ?_)
  replace hP : va_P G.1 gCl [(hMT, .inr (2, [.ref hMC, .null, .null, .null, .null, .null, .null])), cI G hMC 169 (fun _ => 0), cI G hGL 13 (fun _ => 0)] H := hP
  replace hD : va_D A [(hMT, .inr (2, [.ref hMC, .null, .null, .null, .null, .null, .null])), cI G hMC 169 (fun _ => 0), cI G hGL 13 (fun _ => 0)] := hD
  refine g_putF X hin hP hD hS 0 2 1 (v := .ref hGL) rfl rfl inX2 tyX2 tyX2_ok nmX2 (by decide) fl_X2_15 rfl rfl rfl rfl rfl (Nat.le_of_ble_eq_true rfl) dX2_init_18 (fun H locs hP hD hS => ?_)
  replace hP : va_P G.1 gCl [(hMT, .inr (2, [.ref hMC, .ref hGL, .null, .null, .null, .null, .null])), cI G hMC 169 (fun _ => 0), cI G hGL 13 (fun _ => 0)] H := hP
  replace hD : va_D A [(hMT, .inr (2, [.ref hMC, .ref hGL, .null, .null, .null, .null, .null])), cI G hMC 169 (fun _ => 0), cI G hGL 13 (fun _ => 0)] := hD
  refine lv_aload_n X.1 X.2.1 dX2_init_21 rfl (lv_at hl 0 rfl) ?_
  refine lv_bipush (v := (13 : Int32)) X.1 X.2.1 dX2_init_22 (by decide) ?_
  refine g_newI X wa_I hP hD hS 13 (by decide) (by decide) (Nat.le_of_ble_eq_true rfl) (Nat.le_of_ble_eq_true rfl) (Nat.le_of_ble_eq_true rfl) dX2_init_24 (fun hBL H hP hD hS => ?_)
  replace hP : va_P G.1 gCl [(hMT, .inr (2, [.ref hMC, .ref hGL, .null, .null, .null, .null, .null])), cI G hMC 169 (fun _ => 0), cI G hGL 13 (fun _ => 0), cI G hBL 13 (fun _ => 0)] H := hP
  replace hD : va_D A [(hMT, .inr (2, [.ref hMC, .ref hGL, .null, .null, .null, .null, .null])), cI G hMC 169 (fun _ => 0), cI G hGL 13 (fun _ => 0), cI G hBL 13 (fun _ => 0)] := hD
  refine g_putF X hin hP hD hS 0 2 2 (v := .ref hBL) rfl rfl inX2 tyX2 tyX2_ok nmX2 (by decide) fl_X2_18 rfl rfl rfl rfl rfl (Nat.le_of_ble_eq_true rfl) dX2_init_26 (fun H locs hP hD hS => ?_)
  replace hP : va_P G.1 gCl [(hMT, .inr (2, [.ref hMC, .ref hGL, .ref hBL, .null, .null, .null, .null])), cI G hMC 169 (fun _ => 0), cI G hGL 13 (fun _ => 0), cI G hBL 13 (fun _ => 0)] H := hP
  replace hD : va_D A [(hMT, .inr (2, [.ref hMC, .ref hGL, .ref hBL, .null, .null, .null, .null])), cI G hMC 169 (fun _ => 0), cI G hGL 13 (fun _ => 0), cI G hBL 13 (fun _ => 0)] := hD
  refine lv_aload_n X.1 X.2.1 dX2_init_29 rfl (lv_at hl 0 rfl) ?_
  refine lv_bipush (v := (13 : Int32)) X.1 X.2.1 dX2_init_30 (by decide) ?_
  refine g_newI X wa_I hP hD hS 13 (by decide) (by decide) (Nat.le_of_ble_eq_true rfl) (Nat.le_of_ble_eq_true rfl) (Nat.le_of_ble_eq_true rfl) dX2_init_32 (fun hGB H hP hD hS => ?_)
  replace hP : va_P G.1 gCl [(hMT, .inr (2, [.ref hMC, .ref hGL, .ref hBL, .null, .null, .null, .null])), cI G hMC 169 (fun _ => 0), cI G hGL 13 (fun _ => 0), cI G hBL 13 (fun _ => 0), cI G hGB 13 (fun _ => 0)] H := hP
  replace hD : va_D A [(hMT, .inr (2, [.ref hMC, .ref hGL, .ref hBL, .null, .null, .null, .null])), cI G hMC 169 (fun _ => 0), cI G hGL 13 (fun _ => 0), cI G hBL 13 (fun _ => 0), cI G hGB 13 (fun _ => 0)] := hD
  refine g_putF X hin hP hD hS 0 2 3 (v := .ref hGB) rfl rfl inX2 tyX2 tyX2_ok nmX2 (by decide) fl_X2_21 rfl rfl rfl rfl rfl (Nat.le_of_ble_eq_true rfl) dX2_init_34 (fun H locs hP hD hS => ?_)
  replace hP : va_P G.1 gCl [(hMT, .inr (2, [.ref hMC, .ref hGL, .ref hBL, .ref hGB, .null, .null, .null])), cI G hMC 169 (fun _ => 0), cI G hGL 13 (fun _ => 0), cI G hBL 13 (fun _ => 0), cI G hGB 13 (fun _ => 0)] H := hP
  replace hD : va_D A [(hMT, .inr (2, [.ref hMC, .ref hGL, .ref hBL, .ref hGB, .null, .null, .null])), cI G hMC 169 (fun _ => 0), cI G hGL 13 (fun _ => 0), cI G hBL 13 (fun _ => 0), cI G hGB 13 (fun _ => 0)] := hD
  refine lv_aload_n X.1 X.2.1 dX2_init_37 rfl (lv_at hl 0 rfl) ?_
  refine lv_bipush (v := (13 : Int32)) X.1 X.2.1 dX2_init_38 (by decide) ?_
  refine g_newI X wa_I hP hD hS 13 (by decide) (by decide) (Nat.le_of_ble_eq_true rfl) (Nat.le_of_ble_eq_true rfl) (Nat.le_of_ble_eq_true rfl) dX2_init_40 (fun hBB H hP hD hS => ?_)
  replace hP : va_P G.1 gCl [(hMT, .inr (2, [.ref hMC, .ref hGL, .ref hBL, .ref hGB, .null, .null, .null])), cI G hMC 169 (fun _ => 0), cI G hGL 13 (fun _ => 0), cI G hBL 13 (fun _ => 0), cI G hGB 13 (fun _ => 0), cI G hBB 13 (fun _ => 0)] H := hP
  replace hD : va_D A [(hMT, .inr (2, [.ref hMC, .ref hGL, .ref hBL, .ref hGB, .null, .null, .null])), cI G hMC 169 (fun _ => 0), cI G hGL 13 (fun _ => 0), cI G hBL 13 (fun _ => 0), cI G hGB 13 (fun _ => 0), cI G hBB 13 (fun _ => 0)] := hD
  refine g_putF X hin hP hD hS 0 2 4 (v := .ref hBB) rfl rfl inX2 tyX2 tyX2_ok nmX2 (by decide) fl_X2_24 rfl rfl rfl rfl rfl (Nat.le_of_ble_eq_true rfl) dX2_init_42 (fun H locs hP hD hS => ?_)
  replace hP : va_P G.1 gCl [(hMT, .inr (2, [.ref hMC, .ref hGL, .ref hBL, .ref hGB, .ref hBB, .null, .null])), cI G hMC 169 (fun _ => 0), cI G hGL 13 (fun _ => 0), cI G hBL 13 (fun _ => 0), cI G hGB 13 (fun _ => 0), cI G hBB 13 (fun _ => 0)] H := hP
  replace hD : va_D A [(hMT, .inr (2, [.ref hMC, .ref hGL, .ref hBL, .ref hGB, .ref hBB, .null, .null])), cI G hMC 169 (fun _ => 0), cI G hGL 13 (fun _ => 0), cI G hBL 13 (fun _ => 0), cI G hGB 13 (fun _ => 0), cI G hBB 13 (fun _ => 0)] := hD
  refine lv_aload_n X.1 X.2.1 dX2_init_45 rfl (lv_at hl 0 rfl) ?_
  refine lv_bipush (v := (13 : Int32)) X.1 X.2.1 dX2_init_46 (by decide) ?_
  refine g_newI X wa_I hP hD hS 13 (by decide) (by decide) (Nat.le_of_ble_eq_true rfl) (Nat.le_of_ble_eq_true rfl) (Nat.le_of_ble_eq_true rfl) dX2_init_48 (fun hSK H hP hD hS => ?_)
  replace hP : va_P G.1 gCl [(hMT, .inr (2, [.ref hMC, .ref hGL, .ref hBL, .ref hGB, .ref hBB, .null, .null])), cI G hMC 169 (fun _ => 0), cI G hGL 13 (fun _ => 0), cI G hBL 13 (fun _ => 0), cI G hGB 13 (fun _ => 0), cI G hBB 13 (fun _ => 0), cI G hSK 13 (fun _ => 0)] H := hP
  replace hD : va_D A [(hMT, .inr (2, [.ref hMC, .ref hGL, .ref hBL, .ref hGB, .ref hBB, .null, .null])), cI G hMC 169 (fun _ => 0), cI G hGL 13 (fun _ => 0), cI G hBL 13 (fun _ => 0), cI G hGB 13 (fun _ => 0), cI G hBB 13 (fun _ => 0), cI G hSK 13 (fun _ => 0)] := hD
  refine g_putF X hin hP hD hS 0 2 5 (v := .ref hSK) rfl rfl inX2 tyX2 tyX2_ok nmX2 (by decide) fl_X2_27 rfl rfl rfl rfl rfl (Nat.le_of_ble_eq_true rfl) dX2_init_50 (fun H locs hP hD hS => ?_)
  replace hP : va_P G.1 gCl [(hMT, .inr (2, [.ref hMC, .ref hGL, .ref hBL, .ref hGB, .ref hBB, .ref hSK, .null])), cI G hMC 169 (fun _ => 0), cI G hGL 13 (fun _ => 0), cI G hBL 13 (fun _ => 0), cI G hGB 13 (fun _ => 0), cI G hBB 13 (fun _ => 0), cI G hSK 13 (fun _ => 0)] H := hP
  replace hD : va_D A [(hMT, .inr (2, [.ref hMC, .ref hGL, .ref hBL, .ref hGB, .ref hBB, .ref hSK, .null])), cI G hMC 169 (fun _ => 0), cI G hGL 13 (fun _ => 0), cI G hBL 13 (fun _ => 0), cI G hGB 13 (fun _ => 0), cI G hBB 13 (fun _ => 0), cI G hSK 13 (fun _ => 0)] := hD
  refine lv_aload_n X.1 X.2.1 dX2_init_53 rfl (lv_at hl 0 rfl) ?_
  refine lv_bipush (v := (13 : Int32)) X.1 X.2.1 dX2_init_54 (by decide) ?_
  refine g_newZ X wa_Z hP hD hS 13 (by decide) (by decide) (Nat.le_of_ble_eq_true rfl) (Nat.le_of_ble_eq_true rfl) (Nat.le_of_ble_eq_true rfl) dX2_init_56 (fun hSN H hP hD hS => ?_)
  replace hP : va_P G.1 gCl [(hMT, .inr (2, [.ref hMC, .ref hGL, .ref hBL, .ref hGB, .ref hBB, .ref hSK, .null])), cI G hMC 169 (fun _ => 0), cI G hGL 13 (fun _ => 0), cI G hBL 13 (fun _ => 0), cI G hGB 13 (fun _ => 0), cI G hBB 13 (fun _ => 0), cI G hSK 13 (fun _ => 0), cZ G hSN 13 (fun _ => 0)] H := hP
  replace hD : va_D A [(hMT, .inr (2, [.ref hMC, .ref hGL, .ref hBL, .ref hGB, .ref hBB, .ref hSK, .null])), cI G hMC 169 (fun _ => 0), cI G hGL 13 (fun _ => 0), cI G hBL 13 (fun _ => 0), cI G hGB 13 (fun _ => 0), cI G hBB 13 (fun _ => 0), cI G hSK 13 (fun _ => 0), cZ G hSN 13 (fun _ => 0)] := hD
  refine g_putF X hin hP hD hS 0 2 6 (v := .ref hSN) rfl rfl inX2 tyX2 tyX2_ok nmX2 (by decide) fl_X2_30 rfl rfl rfl rfl rfl (Nat.le_of_ble_eq_true rfl) dX2_init_58 (fun H locs hP hD hS => ?_)
  replace hP : va_P G.1 gCl [(hMT, .inr (2, [.ref hMC, .ref hGL, .ref hBL, .ref hGB, .ref hBB, .ref hSK, .ref hSN])), cI G hMC 169 (fun _ => 0), cI G hGL 13 (fun _ => 0), cI G hBL 13 (fun _ => 0), cI G hGB 13 (fun _ => 0), cI G hBB 13 (fun _ => 0), cI G hSK 13 (fun _ => 0), cZ G hSN 13 (fun _ => 0)] H := hP
  replace hD : va_D A [(hMT, .inr (2, [.ref hMC, .ref hGL, .ref hBL, .ref hGB, .ref hBB, .ref hSK, .ref hSN])), cI G hMC 169 (fun _ => 0), cI G hGL 13 (fun _ => 0), cI G hBL 13 (fun _ => 0), cI G hGB 13 (fun _ => 0), cI G hBB 13 (fun _ => 0), cI G hSK 13 (fun _ => 0), cZ G hSN 13 (fun _ => 0)] := hD
  refine W.widen (k := 7) (n := 247) (Nat.le_of_ble_eq_true rfl) (Nat.le_of_ble_eq_true rfl) ?_
  exact g_vret X (hMC, hGL, hBL, hGB, hBB, hSK, hSN) trivial hP hD hS dX2_init_61
abbrev rm_SE_init : Room := { frames := 1, cells := 5, slots := 768, locals := 40 }
set_option maxHeartbeats 4000000 in
set_option maxRecDepth 100000 in
theorem c_SE_init (l : Launch) (G : gEnv) (hSE : Nat) (sz : Nat) : Met l yX4_init (Cond.code yX4_init cX4_init 1 none :: wAll) rm_SE_init (gPc G [.ref hSE] [(hSE, .inr (4, [.int 0, .int 0, .null, .null, .null, .null, .null, .int 0, .int 0]))] sz) (gQv G (fun (_ : Nat × Nat × Nat × Nat × Nat) => True) (fun (u : Nat × Nat × Nat × Nat × Nat) => [cSE hSE 0 0 (u.1) (u.2.1) (u.2.2.1) (u.2.2.2.1) (u.2.2.2.2) 0 0, cJ G (u.1) 128 (fun _ => 0), cI G (u.2.1) 128 (fun _ => 0), cI G (u.2.2.1) 128 (fun _ => 0), cI G (u.2.2.2.1) 128 (fun _ => 0), cI G (u.2.2.2.2) 256 (fun _ => 0)]) (va_A [(hSE, .inr (4, [.int 0, .int 0, .null, .null, .null, .null, .null, .int 0, .int 0]))] sz)) 5 768 (va_A [(hSE, .inr (4, [.int 0, .int 0, .null, .null, .null, .null, .null, .int 0, .int 0]))] sz) := by
  refine Met.ofW (cc := cX4_init) (maxL := 1) (ret := none) (by decide) rfl ?_
  intro p e s m args below meth c s₁ B hml hv
  obtain ⟨rfl, hsz, hP, hK, hD0⟩ := hv
  subst hsz
  have X := gX.ofB (ws := [(hSE, .inr (4, [.int 0, .int 0, .null, .null, .null, .null, .null, .int 0, .int 0]))]) B hml hK hD0
  have hin : meth.name = "<init>" := (name_of_methodNamed B.named B.method).1
  have hD := hD0.self (sz := s.heap.size)
  generalize hAe : va_A [(hSE, .inr (4, [.int 0, .int 0, .null, .null, .null, .null, .null, .int 0, .int 0]))] s.heap.size = A at X hD ⊢
  have hS : va_S A s.heap s.heap [] := va_S.rf
  have hl := lv_entry ([.ref hSE]) (n := 1) (Nat.le_of_ble_eq_true rfl)
  rw [lg_entry_eq]
  generalize (lg_sl ([.ref hSE]) ++ List.replicate (1 - (lg_sl ([.ref hSE])).length) Slot.unset).toArray = ls at hl ⊢
  have hl : lv_has ls 1 [(0, .ref hSE)] := hl
  dsimp only [headSpec]
  refine lv_aload_n X.1 X.2.1 dX4_init_0 rfl (lv_at hl 0 rfl) ?_
  refine g_objInit X ww_175 hl.1 dX4_init_1 (Nat.le_of_ble_eq_true rfl) (Nat.le_of_ble_eq_true rfl) ?_
  refine lv_aload_n X.1 X.2.1 dX4_init_4 rfl (lv_at hl 0 rfl) ?_
  refine lv_sipush (v := (128 : Int32)) X.1 X.2.1 dX4_init_5 (by decide) ?_
  refine g_newJ X wa_J hP hD hS 128 (by decide) (by decide) (Nat.le_of_ble_eq_true rfl) (Nat.le_of_ble_eq_true rfl) (Nat.le_of_ble_eq_true rfl) dX4_init_8 (fun hSB H hP hD hS => ?_)
  replace hP : va_P G.1 gCl [(hSE, .inr (4, [.int 0, .int 0, .null, .null, .null, .null, .null, .int 0, .int 0])), cJ G hSB 128 (fun _ => 0)] H := hP
  replace hD : va_D A [(hSE, .inr (4, [.int 0, .int 0, .null, .null, .null, .null, .null, .int 0, .int 0])), cJ G hSB 128 (fun _ => 0)] := hD
  refine g_put X hP hD hS 0 4 2 (v := .ref hSB) rfl rfl inX4 tyX4 tyX4_ok nmX4 (by decide) fl_X4_11 rfl rfl rfl rfl (Nat.le_of_ble_eq_true rfl) dX4_init_10 (fun H locs hP hD hS => ?_)
  replace hP : va_P G.1 gCl [(hSE, .inr (4, [.int 0, .int 0, .ref hSB, .null, .null, .null, .null, .int 0, .int 0])), cJ G hSB 128 (fun _ => 0)] H := hP
  replace hD : va_D A [(hSE, .inr (4, [.int 0, .int 0, .ref hSB, .null, .null, .null, .null, .int 0, .int 0])), cJ G hSB 128 (fun _ => 0)] := hD
  refine lv_aload_n X.1 X.2.1 dX4_init_13 rfl (lv_at hl 0 rfl) ?_
  refine lv_sipush (v := (128 : Int32)) X.1 X.2.1 dX4_init_14 (by decide) ?_
  refine g_newI X wa_I hP hD hS 128 (by decide) (by decide) (Nat.le_of_ble_eq_true rfl) (Nat.le_of_ble_eq_true rfl) (Nat.le_of_ble_eq_true rfl) dX4_init_17 (fun hSL H hP hD hS => ?_)
  replace hP : va_P G.1 gCl [(hSE, .inr (4, [.int 0, .int 0, .ref hSB, .null, .null, .null, .null, .int 0, .int 0])), cJ G hSB 128 (fun _ => 0), cI G hSL 128 (fun _ => 0)] H := hP
  replace hD : va_D A [(hSE, .inr (4, [.int 0, .int 0, .ref hSB, .null, .null, .null, .null, .int 0, .int 0])), cJ G hSB 128 (fun _ => 0), cI G hSL 128 (fun _ => 0)] := hD
  refine g_put X hP hD hS 0 4 3 (v := .ref hSL) rfl rfl inX4 tyX4 tyX4_ok nmX4 (by decide) fl_X4_15 rfl rfl rfl rfl (Nat.le_of_ble_eq_true rfl) dX4_init_19 (fun H locs hP hD hS => ?_)
  replace hP : va_P G.1 gCl [(hSE, .inr (4, [.int 0, .int 0, .ref hSB, .ref hSL, .null, .null, .null, .int 0, .int 0])), cJ G hSB 128 (fun _ => 0), cI G hSL 128 (fun _ => 0)] H := hP
  replace hD : va_D A [(hSE, .inr (4, [.int 0, .int 0, .ref hSB, .ref hSL, .null, .null, .null, .int 0, .int 0])), cJ G hSB 128 (fun _ => 0), cI G hSL 128 (fun _ => 0)] := hD
  refine lv_aload_n X.1 X.2.1 dX4_init_22 rfl (lv_at hl 0 rfl) ?_
  refine lv_sipush (v := (128 : Int32)) X.1 X.2.1 dX4_init_23 (by decide) ?_
  refine g_newI X wa_I hP hD hS 128 (by decide) (by decide) (Nat.le_of_ble_eq_true rfl) (Nat.le_of_ble_eq_true rfl) (Nat.le_of_ble_eq_true rfl) dX4_init_26 (fun hSP H hP hD hS => ?_)
  replace hP : va_P G.1 gCl [(hSE, .inr (4, [.int 0, .int 0, .ref hSB, .ref hSL, .null, .null, .null, .int 0, .int 0])), cJ G hSB 128 (fun _ => 0), cI G hSL 128 (fun _ => 0), cI G hSP 128 (fun _ => 0)] H := hP
  replace hD : va_D A [(hSE, .inr (4, [.int 0, .int 0, .ref hSB, .ref hSL, .null, .null, .null, .int 0, .int 0])), cJ G hSB 128 (fun _ => 0), cI G hSL 128 (fun _ => 0), cI G hSP 128 (fun _ => 0)] := hD
  refine g_put X hP hD hS 0 4 4 (v := .ref hSP) rfl rfl inX4 tyX4 tyX4_ok nmX4 (by decide) fl_X4_19 rfl rfl rfl rfl (Nat.le_of_ble_eq_true rfl) dX4_init_28 (fun H locs hP hD hS => ?_)
  replace hP : va_P G.1 gCl [(hSE, .inr (4, [.int 0, .int 0, .ref hSB, .ref hSL, .ref hSP, .null, .null, .int 0, .int 0])), cJ G hSB 128 (fun _ => 0), cI G hSL 128 (fun _ => 0), cI G hSP 128 (fun _ => 0)] H := hP
  replace hD : va_D A [(hSE, .inr (4, [.int 0, .int 0, .ref hSB, .ref hSL, .ref hSP, .null, .null, .int 0, .int 0])), cJ G hSB 128 (fun _ => 0), cI G hSL 128 (fun _ => 0), cI G hSP 128 (fun _ => 0)] := hD
  refine lv_aload_n X.1 X.2.1 dX4_init_31 rfl (lv_at hl 0 rfl) ?_
  refine lv_sipush (v := (128 : Int32)) X.1 X.2.1 dX4_init_32 (by decide) ?_
  refine g_newI X wa_I hP hD hS 128 (by decide) (by decide) (Nat.le_of_ble_eq_true rfl) (Nat.le_of_ble_eq_true rfl) (Nat.le_of_ble_eq_true rfl) dX4_init_35 (fun hSU H hP hD hS => ?_)
  replace hP : va_P G.1 gCl [(hSE, .inr (4, [.int 0, .int 0, .ref hSB, .ref hSL, .ref hSP, .null, .null, .int 0, .int 0])), cJ G hSB 128 (fun _ => 0), cI G hSL 128 (fun _ => 0), cI G hSP 128 (fun _ => 0), cI G hSU 128 (fun _ => 0)] H := hP
  replace hD : va_D A [(hSE, .inr (4, [.int 0, .int 0, .ref hSB, .ref hSL, .ref hSP, .null, .null, .int 0, .int 0])), cJ G hSB 128 (fun _ => 0), cI G hSL 128 (fun _ => 0), cI G hSP 128 (fun _ => 0), cI G hSU 128 (fun _ => 0)] := hD
  refine g_put X hP hD hS 0 4 5 (v := .ref hSU) rfl rfl inX4 tyX4 tyX4_ok nmX4 (by decide) fl_X4_22 rfl rfl rfl rfl (Nat.le_of_ble_eq_true rfl) dX4_init_37 (fun H locs hP hD hS => ?_)
  replace hP : va_P G.1 gCl [(hSE, .inr (4, [.int 0, .int 0, .ref hSB, .ref hSL, .ref hSP, .ref hSU, .null, .int 0, .int 0])), cJ G hSB 128 (fun _ => 0), cI G hSL 128 (fun _ => 0), cI G hSP 128 (fun _ => 0), cI G hSU 128 (fun _ => 0)] H := hP
  replace hD : va_D A [(hSE, .inr (4, [.int 0, .int 0, .ref hSB, .ref hSL, .ref hSP, .ref hSU, .null, .int 0, .int 0])), cJ G hSB 128 (fun _ => 0), cI G hSL 128 (fun _ => 0), cI G hSP 128 (fun _ => 0), cI G hSU 128 (fun _ => 0)] := hD
  refine lv_aload_n X.1 X.2.1 dX4_init_40 rfl (lv_at hl 0 rfl) ?_
  refine lv_sipush (v := (256 : Int32)) X.1 X.2.1 dX4_init_41 (by decide) ?_
  refine g_newI X wa_I hP hD hS 256 (by decide) (by decide) (Nat.le_of_ble_eq_true rfl) (Nat.le_of_ble_eq_true rfl) (Nat.le_of_ble_eq_true rfl) dX4_init_44 (fun hSS H hP hD hS => ?_)
  replace hP : va_P G.1 gCl [(hSE, .inr (4, [.int 0, .int 0, .ref hSB, .ref hSL, .ref hSP, .ref hSU, .null, .int 0, .int 0])), cJ G hSB 128 (fun _ => 0), cI G hSL 128 (fun _ => 0), cI G hSP 128 (fun _ => 0), cI G hSU 128 (fun _ => 0), cI G hSS 256 (fun _ => 0)] H := hP
  replace hD : va_D A [(hSE, .inr (4, [.int 0, .int 0, .ref hSB, .ref hSL, .ref hSP, .ref hSU, .null, .int 0, .int 0])), cJ G hSB 128 (fun _ => 0), cI G hSL 128 (fun _ => 0), cI G hSP 128 (fun _ => 0), cI G hSU 128 (fun _ => 0), cI G hSS 256 (fun _ => 0)] := hD
  refine g_put X hP hD hS 0 4 6 (v := .ref hSS) rfl rfl inX4 tyX4 tyX4_ok nmX4 (by decide) fl_X4_25 rfl rfl rfl rfl (Nat.le_of_ble_eq_true rfl) dX4_init_46 (fun H locs hP hD hS => ?_)
  replace hP : va_P G.1 gCl [(hSE, .inr (4, [.int 0, .int 0, .ref hSB, .ref hSL, .ref hSP, .ref hSU, .ref hSS, .int 0, .int 0])), cJ G hSB 128 (fun _ => 0), cI G hSL 128 (fun _ => 0), cI G hSP 128 (fun _ => 0), cI G hSU 128 (fun _ => 0), cI G hSS 256 (fun _ => 0)] H := hP
  replace hD : va_D A [(hSE, .inr (4, [.int 0, .int 0, .ref hSB, .ref hSL, .ref hSP, .ref hSU, .ref hSS, .int 0, .int 0])), cJ G hSB 128 (fun _ => 0), cI G hSL 128 (fun _ => 0), cI G hSP 128 (fun _ => 0), cI G hSU 128 (fun _ => 0), cI G hSS 256 (fun _ => 0)] := hD
  refine W.widen (k := 5) (n := 768) (Nat.le_of_ble_eq_true rfl) (Nat.le_of_ble_eq_true rfl) ?_
  exact g_vret X (hSB, hSL, hSP, hSU, hSS) trivial hP hD hS dX4_init_49
abbrev rm_PB_init : Room := { frames := 2, cells := 20, slots := 1778, locals := 80 }
set_option maxHeartbeats 4000000 in
set_option maxRecDepth 100000 in
theorem c_PB_init (l : Launch) (G : gEnv) (hPB : Nat) (sz : Nat) : Met l yX5_init (Cond.code yX5_init cX5_init 1 none :: wAll) rm_PB_init (gPc G [.ref hPB] [(hPB, .inr (5, [.null, .int 0, .null, .null, .null, .null, .null]))] sz) (gQv G (fun (_ : Nat × Nat × Nat × Nat × Nat × Nat × Nat × Nat × Nat × Nat × Nat × Nat × Nat × Nat × Nat × Nat × Nat × Nat × Nat × Nat) => True) (fun (u : Nat × Nat × Nat × Nat × Nat × Nat × Nat × Nat × Nat × Nat × Nat × Nat × Nat × Nat × Nat × Nat × Nat × Nat × Nat × Nat) => [cPB hPB (u.1) 0 (u.2.1) (u.2.2.1) (u.2.2.2.2.1) (u.2.2.2.2.2.2.1) (u.2.2.2.2.2.2.2.2.2.2.2.2.2.2.1), cI G (u.1) 160 (fun _ => 0), cPI (u.2.1) 0 0 0 0 0 0 0 0, cBO (u.2.2.1) 0 0 0 0 0 0 0 (u.2.2.2.1) 0 0, cI G (u.2.2.2.1) 64 (fun _ => 0), cLO (u.2.2.2.2.1) 0 0 0 (u.2.2.2.2.2.1) 0, cI G (u.2.2.2.2.2.1) 500 (fun _ => 0), cMT (u.2.2.2.2.2.2.1) (u.2.2.2.2.2.2.2.1) (u.2.2.2.2.2.2.2.2.1) (u.2.2.2.2.2.2.2.2.2.1) (u.2.2.2.2.2.2.2.2.2.2.1) (u.2.2.2.2.2.2.2.2.2.2.2.1) (u.2.2.2.2.2.2.2.2.2.2.2.2.1) (u.2.2.2.2.2.2.2.2.2.2.2.2.2.1), cI G (u.2.2.2.2.2.2.2.1) 169 (fun _ => 0), cI G (u.2.2.2.2.2.2.2.2.1) 13 (fun _ => 0), cI G (u.2.2.2.2.2.2.2.2.2.1) 13 (fun _ => 0), cI G (u.2.2.2.2.2.2.2.2.2.2.1) 13 (fun _ => 0), cI G (u.2.2.2.2.2.2.2.2.2.2.2.1) 13 (fun _ => 0), cI G (u.2.2.2.2.2.2.2.2.2.2.2.2.1) 13 (fun _ => 0), cZ G (u.2.2.2.2.2.2.2.2.2.2.2.2.2.1) 13 (fun _ => 0), cSE (u.2.2.2.2.2.2.2.2.2.2.2.2.2.2.1) 0 0 (u.2.2.2.2.2.2.2.2.2.2.2.2.2.2.2.1) (u.2.2.2.2.2.2.2.2.2.2.2.2.2.2.2.2.1) (u.2.2.2.2.2.2.2.2.2.2.2.2.2.2.2.2.2.1) (u.2.2.2.2.2.2.2.2.2.2.2.2.2.2.2.2.2.2.1) (u.2.2.2.2.2.2.2.2.2.2.2.2.2.2.2.2.2.2.2) 0 0, cJ G (u.2.2.2.2.2.2.2.2.2.2.2.2.2.2.2.1) 128 (fun _ => 0), cI G (u.2.2.2.2.2.2.2.2.2.2.2.2.2.2.2.2.1) 128 (fun _ => 0), cI G (u.2.2.2.2.2.2.2.2.2.2.2.2.2.2.2.2.2.1) 128 (fun _ => 0), cI G (u.2.2.2.2.2.2.2.2.2.2.2.2.2.2.2.2.2.2.1) 128 (fun _ => 0), cI G (u.2.2.2.2.2.2.2.2.2.2.2.2.2.2.2.2.2.2.2) 256 (fun _ => 0)]) (va_A [(hPB, .inr (5, [.null, .int 0, .null, .null, .null, .null, .null]))] sz)) 20 1778 (va_A [(hPB, .inr (5, [.null, .int 0, .null, .null, .null, .null, .null]))] sz) := by
  refine Met.ofW (cc := cX5_init) (maxL := 1) (ret := none) (by decide) rfl ?_
  intro p e s m args below meth c s₁ B hml hv
  obtain ⟨rfl, hsz, hP, hK, hD0⟩ := hv
  subst hsz
  have X := gX.ofB (ws := [(hPB, .inr (5, [.null, .int 0, .null, .null, .null, .null, .null]))]) B hml hK hD0
  have hin : meth.name = "<init>" := (name_of_methodNamed B.named B.method).1
  have hD := hD0.self (sz := s.heap.size)
  generalize hAe : va_A [(hPB, .inr (5, [.null, .int 0, .null, .null, .null, .null, .null]))] s.heap.size = A at X hD ⊢
  have hS : va_S A s.heap s.heap [] := va_S.rf
  have hl := lv_entry ([.ref hPB]) (n := 1) (Nat.le_of_ble_eq_true rfl)
  rw [lg_entry_eq]
  generalize (lg_sl ([.ref hPB]) ++ List.replicate (1 - (lg_sl ([.ref hPB])).length) Slot.unset).toArray = ls at hl ⊢
  have hl : lv_has ls 1 [(0, .ref hPB)] := hl
  dsimp only [headSpec]
  refine lv_aload_n X.1 X.2.1 dX5_init_0 rfl (lv_at hl 0 rfl) ?_
  refine g_objInit X ww_27 hl.1 dX5_init_1 (Nat.le_of_ble_eq_true rfl) (Nat.le_of_ble_eq_true rfl) ?_
  refine lv_aload_n X.1 X.2.1 dX5_init_4 rfl (lv_at hl 0 rfl) ?_
  refine lv_sipush (v := (160 : Int32)) X.1 X.2.1 dX5_init_5 (by decide) ?_
  refine g_newI X wa_I hP hD hS 160 (by decide) (by decide) (Nat.le_of_ble_eq_true rfl) (Nat.le_of_ble_eq_true rfl) (Nat.le_of_ble_eq_true rfl) dX5_init_8 (fun hTX H hP hD hS => ?_)
  replace hP : va_P G.1 gCl [(hPB, .inr (5, [.null, .int 0, .null, .null, .null, .null, .null])), cI G hTX 160 (fun _ => 0)] H := hP
  replace hD : va_D A [(hPB, .inr (5, [.null, .int 0, .null, .null, .null, .null, .null])), cI G hTX 160 (fun _ => 0)] := hD
  refine g_putF X hin hP hD hS 0 5 0 (v := .ref hTX) rfl rfl inX5 tyX5 tyX5_ok nmX5 (by decide) fl_X5_9 rfl rfl rfl rfl rfl (Nat.le_of_ble_eq_true rfl) dX5_init_10 (fun H locs hP hD hS => ?_)
  replace hP : va_P G.1 gCl [(hPB, .inr (5, [.ref hTX, .int 0, .null, .null, .null, .null, .null])), cI G hTX 160 (fun _ => 0)] H := hP
  replace hD : va_D A [(hPB, .inr (5, [.ref hTX, .int 0, .null, .null, .null, .null, .null])), cI G hTX 160 (fun _ => 0)] := hD
  refine lv_aload_n X.1 X.2.1 dX5_init_13 rfl (lv_at hl 0 rfl) ?_
  refine g_new X hP hD hS 3 (fs := [.int 0, .int 0, .long 0, .long 0, .long 0, .long 0, .int 0, .int 0]) rfl inX3 tyX3 tyX3_ok ww_30 ww_31 ww_2 (by decide +kernel) (Nat.le_of_ble_eq_true rfl) (Nat.le_of_ble_eq_true rfl) dX5_init_14 (fun hPI H hP hD hS => ?_)
  replace hP : va_P G.1 gCl [(hPB, .inr (5, [.ref hTX, .int 0, .null, .null, .null, .null, .null])), cI G hTX 160 (fun _ => 0), (hPI, .inr (3, [.int 0, .int 0, .long 0, .long 0, .long 0, .long 0, .int 0, .int 0]))] H := hP
  replace hD : va_D A [(hPB, .inr (5, [.ref hTX, .int 0, .null, .null, .null, .null, .null])), cI G hTX 160 (fun _ => 0), (hPI, .inr (3, [.int 0, .int 0, .long 0, .long 0, .long 0, .long 0, .int 0, .int 0]))] := hD
  refine lv_dup X.1 X.2.1 dX5_init_17 rfl ?_
  refine g_cv (wr := [(hPB, .inr (5, [.ref hTX, .int 0, .null, .null, .null, .null, .null])), cI G hTX 160 (fun _ => 0)]) X [2] [0, 1] (g_rI (As := []) (rest := [.ref hPI, .ref hPB]) X (c_PI_init l G hPI _) lk_X5_15 rfl rfl rfl ⟨Nat.le_of_ble_eq_true rfl, Nat.le_of_ble_eq_true rfl⟩ hP hD hS [2] rfl rfl rfl hl.1 rfl (Nat.le_of_ble_eq_true rfl) dX5_init_18 ⟨Nat.le_of_ble_eq_true rfl, Nat.le_of_ble_eq_true rfl⟩) hP hD hS rfl rfl rfl (by decide) (fun u H locs _ hP hD hS => ?_)
  replace hP : va_P G.1 gCl [(hPB, .inr (5, [.ref hTX, .int 0, .null, .null, .null, .null, .null])), cI G hTX 160 (fun _ => 0), cPI hPI 0 0 0 0 0 0 0 0] H := hP
  replace hD : va_D A [(hPB, .inr (5, [.ref hTX, .int 0, .null, .null, .null, .null, .null])), cI G hTX 160 (fun _ => 0), cPI hPI 0 0 0 0 0 0 0 0] := hD
  refine g_putF X hin hP hD hS 0 5 2 (v := .ref hPI) rfl rfl inX5 tyX5 tyX5_ok nmX5 (by decide) fl_X5_16 rfl rfl rfl rfl rfl (Nat.le_of_ble_eq_true rfl) dX5_init_21 (fun H locs hP hD hS => ?_)
  replace hP : va_P G.1 gCl [(hPB, .inr (5, [.ref hTX, .int 0, .ref hPI, .null, .null, .null, .null])), cI G hTX 160 (fun _ => 0), cPI hPI 0 0 0 0 0 0 0 0] H := hP
  replace hD : va_D A [(hPB, .inr (5, [.ref hTX, .int 0, .ref hPI, .null, .null, .null, .null])), cI G hTX 160 (fun _ => 0), cPI hPI 0 0 0 0 0 0 0 0] := hD
  refine lv_aload_n X.1 X.2.1 dX5_init_24 rfl (lv_at hl 0 rfl) ?_
  refine g_new X hP hD hS 0 (fs := [.int 0, .int 0, .long 0, .long 0, .long 0, .long 0, .long 0, .null, .long 0, .long 0]) rfl inX0 tyX0 tyX0_ok ww_68 ww_69 ww_3 (by decide +kernel) (Nat.le_of_ble_eq_true rfl) (Nat.le_of_ble_eq_true rfl) dX5_init_25 (fun hBO H hP hD hS => ?_)
  replace hP : va_P G.1 gCl [(hPB, .inr (5, [.ref hTX, .int 0, .ref hPI, .null, .null, .null, .null])), cI G hTX 160 (fun _ => 0), cPI hPI 0 0 0 0 0 0 0 0, (hBO, .inr (0, [.int 0, .int 0, .long 0, .long 0, .long 0, .long 0, .long 0, .null, .long 0, .long 0]))] H := hP
  replace hD : va_D A [(hPB, .inr (5, [.ref hTX, .int 0, .ref hPI, .null, .null, .null, .null])), cI G hTX 160 (fun _ => 0), cPI hPI 0 0 0 0 0 0 0 0, (hBO, .inr (0, [.int 0, .int 0, .long 0, .long 0, .long 0, .long 0, .long 0, .null, .long 0, .long 0]))] := hD
  refine lv_dup X.1 X.2.1 dX5_init_28 rfl ?_
  refine g_cv (wr := [(hPB, .inr (5, [.ref hTX, .int 0, .ref hPI, .null, .null, .null, .null])), cI G hTX 160 (fun _ => 0), cPI hPI 0 0 0 0 0 0 0 0]) X [3] [0, 1, 2] (g_rI (As := []) (rest := [.ref hBO, .ref hPB]) X (c_BO_init l G hBO _) lk_X5_22 rfl rfl rfl ⟨Nat.le_of_ble_eq_true rfl, Nat.le_of_ble_eq_true rfl⟩ hP hD hS [3] rfl rfl rfl hl.1 rfl (Nat.le_of_ble_eq_true rfl) dX5_init_29 ⟨Nat.le_of_ble_eq_true rfl, Nat.le_of_ble_eq_true rfl⟩) hP hD hS rfl rfl rfl (by decide) (fun u H locs _ hP hD hS => ?_)
  obtain ⟨hBS, rfl⟩ : ∃ z, z = u := ⟨_, rfl⟩
  replace hP : va_P G.1 gCl [(hPB, .inr (5, [.ref hTX, .int 0, .ref hPI, .null, .null, .null, .null])), cI G hTX 160 (fun _ => 0), cPI hPI 0 0 0 0 0 0 0 0, cBO hBO 0 0 0 0 0 0 0 hBS 0 0, cI G hBS 64 (fun _ => 0)] H := hP
  replace hD : va_D A [(hPB, .inr (5, [.ref hTX, .int 0, .ref hPI, .null, .null, .null, .null])), cI G hTX 160 (fun _ => 0), cPI hPI 0 0 0 0 0 0 0 0, cBO hBO 0 0 0 0 0 0 0 hBS 0 0, cI G hBS 64 (fun _ => 0)] := hD
  refine g_putF X hin hP hD hS 0 5 3 (v := .ref hBO) rfl rfl inX5 tyX5 tyX5_ok nmX5 (by decide) fl_X5_23 rfl rfl rfl rfl rfl (Nat.le_of_ble_eq_true rfl) dX5_init_32 (fun H locs hP hD hS => ?_)
  replace hP : va_P G.1 gCl [(hPB, .inr (5, [.ref hTX, .int 0, .ref hPI, .ref hBO, .null, .null, .null])), cI G hTX 160 (fun _ => 0), cPI hPI 0 0 0 0 0 0 0 0, cBO hBO 0 0 0 0 0 0 0 hBS 0 0, cI G hBS 64 (fun _ => 0)] H := hP
  replace hD : va_D A [(hPB, .inr (5, [.ref hTX, .int 0, .ref hPI, .ref hBO, .null, .null, .null])), cI G hTX 160 (fun _ => 0), cPI hPI 0 0 0 0 0 0 0 0, cBO hBO 0 0 0 0 0 0 0 hBS 0 0, cI G hBS 64 (fun _ => 0)] := hD
  refine lv_aload_n X.1 X.2.1 dX5_init_35 rfl (lv_at hl 0 rfl) ?_
  refine g_new X hP hD hS 1 (fs := [.int 0, .int 0, .int 0, .null, .int 0]) rfl inX1 tyX1 tyX1_ok ww_116 ww_117 ww_4 (by decide +kernel) (Nat.le_of_ble_eq_true rfl) (Nat.le_of_ble_eq_true rfl) dX5_init_36 (fun hLO H hP hD hS => ?_)
  replace hP : va_P G.1 gCl [(hPB, .inr (5, [.ref hTX, .int 0, .ref hPI, .ref hBO, .null, .null, .null])), cI G hTX 160 (fun _ => 0), cPI hPI 0 0 0 0 0 0 0 0, cBO hBO 0 0 0 0 0 0 0 hBS 0 0, cI G hBS 64 (fun _ => 0), (hLO, .inr (1, [.int 0, .int 0, .int 0, .null, .int 0]))] H := hP
  replace hD : va_D A [(hPB, .inr (5, [.ref hTX, .int 0, .ref hPI, .ref hBO, .null, .null, .null])), cI G hTX 160 (fun _ => 0), cPI hPI 0 0 0 0 0 0 0 0, cBO hBO 0 0 0 0 0 0 0 hBS 0 0, cI G hBS 64 (fun _ => 0), (hLO, .inr (1, [.int 0, .int 0, .int 0, .null, .int 0]))] := hD
  refine lv_dup X.1 X.2.1 dX5_init_39 rfl ?_
  refine g_cv (wr := [(hPB, .inr (5, [.ref hTX, .int 0, .ref hPI, .ref hBO, .null, .null, .null])), cI G hTX 160 (fun _ => 0), cPI hPI 0 0 0 0 0 0 0 0, cBO hBO 0 0 0 0 0 0 0 hBS 0 0, cI G hBS 64 (fun _ => 0)]) X [5] [0, 1, 2, 3, 4] (g_rI (As := []) (rest := [.ref hLO, .ref hPB]) X (c_LO_init l G hLO _) lk_X5_29 rfl rfl rfl ⟨Nat.le_of_ble_eq_true rfl, Nat.le_of_ble_eq_true rfl⟩ hP hD hS [5] rfl rfl rfl hl.1 rfl (Nat.le_of_ble_eq_true rfl) dX5_init_40 ⟨Nat.le_of_ble_eq_true rfl, Nat.le_of_ble_eq_true rfl⟩) hP hD hS rfl rfl rfl (by decide) (fun u H locs _ hP hD hS => ?_)
  obtain ⟨hMA, rfl⟩ : ∃ z, z = u := ⟨_, rfl⟩
  replace hP : va_P G.1 gCl [(hPB, .inr (5, [.ref hTX, .int 0, .ref hPI, .ref hBO, .null, .null, .null])), cI G hTX 160 (fun _ => 0), cPI hPI 0 0 0 0 0 0 0 0, cBO hBO 0 0 0 0 0 0 0 hBS 0 0, cI G hBS 64 (fun _ => 0), cLO hLO 0 0 0 hMA 0, cI G hMA 500 (fun _ => 0)] H := hP
  replace hD : va_D A [(hPB, .inr (5, [.ref hTX, .int 0, .ref hPI, .ref hBO, .null, .null, .null])), cI G hTX 160 (fun _ => 0), cPI hPI 0 0 0 0 0 0 0 0, cBO hBO 0 0 0 0 0 0 0 hBS 0 0, cI G hBS 64 (fun _ => 0), cLO hLO 0 0 0 hMA 0, cI G hMA 500 (fun _ => 0)] := hD
  refine g_putF X hin hP hD hS 0 5 4 (v := .ref hLO) rfl rfl inX5 tyX5 tyX5_ok nmX5 (by decide) fl_X5_30 rfl rfl rfl rfl rfl (Nat.le_of_ble_eq_true rfl) dX5_init_43 (fun H locs hP hD hS => ?_)
  replace hP : va_P G.1 gCl [(hPB, .inr (5, [.ref hTX, .int 0, .ref hPI, .ref hBO, .ref hLO, .null, .null])), cI G hTX 160 (fun _ => 0), cPI hPI 0 0 0 0 0 0 0 0, cBO hBO 0 0 0 0 0 0 0 hBS 0 0, cI G hBS 64 (fun _ => 0), cLO hLO 0 0 0 hMA 0, cI G hMA 500 (fun _ => 0)] H := hP
  replace hD : va_D A [(hPB, .inr (5, [.ref hTX, .int 0, .ref hPI, .ref hBO, .ref hLO, .null, .null])), cI G hTX 160 (fun _ => 0), cPI hPI 0 0 0 0 0 0 0 0, cBO hBO 0 0 0 0 0 0 0 hBS 0 0, cI G hBS 64 (fun _ => 0), cLO hLO 0 0 0 hMA 0, cI G hMA 500 (fun _ => 0)] := hD
  refine lv_aload_n X.1 X.2.1 dX5_init_46 rfl (lv_at hl 0 rfl) ?_
  refine g_new X hP hD hS 2 (fs := [.null, .null, .null, .null, .null, .null, .null]) rfl inX2 tyX2 tyX2_ok ww_141 ww_142 ww_5 (by decide +kernel) (Nat.le_of_ble_eq_true rfl) (Nat.le_of_ble_eq_true rfl) dX5_init_47 (fun hMT H hP hD hS => ?_)
  replace hP : va_P G.1 gCl [(hPB, .inr (5, [.ref hTX, .int 0, .ref hPI, .ref hBO, .ref hLO, .null, .null])), cI G hTX 160 (fun _ => 0), cPI hPI 0 0 0 0 0 0 0 0, cBO hBO 0 0 0 0 0 0 0 hBS 0 0, cI G hBS 64 (fun _ => 0), cLO hLO 0 0 0 hMA 0, cI G hMA 500 (fun _ => 0), (hMT, .inr (2, [.null, .null, .null, .null, .null, .null, .null]))] H := hP
  replace hD : va_D A [(hPB, .inr (5, [.ref hTX, .int 0, .ref hPI, .ref hBO, .ref hLO, .null, .null])), cI G hTX 160 (fun _ => 0), cPI hPI 0 0 0 0 0 0 0 0, cBO hBO 0 0 0 0 0 0 0 hBS 0 0, cI G hBS 64 (fun _ => 0), cLO hLO 0 0 0 hMA 0, cI G hMA 500 (fun _ => 0), (hMT, .inr (2, [.null, .null, .null, .null, .null, .null, .null]))] := hD
  refine lv_dup X.1 X.2.1 dX5_init_50 rfl ?_
  refine g_cv (wr := [(hPB, .inr (5, [.ref hTX, .int 0, .ref hPI, .ref hBO, .ref hLO, .null, .null])), cI G hTX 160 (fun _ => 0), cPI hPI 0 0 0 0 0 0 0 0, cBO hBO 0 0 0 0 0 0 0 hBS 0 0, cI G hBS 64 (fun _ => 0), cLO hLO 0 0 0 hMA 0, cI G hMA 500 (fun _ => 0)]) X [7] [0, 1, 2, 3, 4, 5, 6] (g_rI (As := []) (rest := [.ref hMT, .ref hPB]) X (c_MT_init l G hMT _) lk_X5_36 rfl rfl rfl ⟨Nat.le_of_ble_eq_true rfl, Nat.le_of_ble_eq_true rfl⟩ hP hD hS [7] rfl rfl rfl hl.1 rfl (Nat.le_of_ble_eq_true rfl) dX5_init_51 ⟨Nat.le_of_ble_eq_true rfl, Nat.le_of_ble_eq_true rfl⟩) hP hD hS rfl rfl rfl (by decide) (fun u H locs _ hP hD hS => ?_)
  obtain ⟨hMC, hGL, hBL, hGB, hBB, hSK, hSN⟩ := u
  replace hP : va_P G.1 gCl [(hPB, .inr (5, [.ref hTX, .int 0, .ref hPI, .ref hBO, .ref hLO, .null, .null])), cI G hTX 160 (fun _ => 0), cPI hPI 0 0 0 0 0 0 0 0, cBO hBO 0 0 0 0 0 0 0 hBS 0 0, cI G hBS 64 (fun _ => 0), cLO hLO 0 0 0 hMA 0, cI G hMA 500 (fun _ => 0), cMT hMT hMC hGL hBL hGB hBB hSK hSN, cI G hMC 169 (fun _ => 0), cI G hGL 13 (fun _ => 0), cI G hBL 13 (fun _ => 0), cI G hGB 13 (fun _ => 0), cI G hBB 13 (fun _ => 0), cI G hSK 13 (fun _ => 0), cZ G hSN 13 (fun _ => 0)] H := hP
  replace hD : va_D A [(hPB, .inr (5, [.ref hTX, .int 0, .ref hPI, .ref hBO, .ref hLO, .null, .null])), cI G hTX 160 (fun _ => 0), cPI hPI 0 0 0 0 0 0 0 0, cBO hBO 0 0 0 0 0 0 0 hBS 0 0, cI G hBS 64 (fun _ => 0), cLO hLO 0 0 0 hMA 0, cI G hMA 500 (fun _ => 0), cMT hMT hMC hGL hBL hGB hBB hSK hSN, cI G hMC 169 (fun _ => 0), cI G hGL 13 (fun _ => 0), cI G hBL 13 (fun _ => 0), cI G hGB 13 (fun _ => 0), cI G hBB 13 (fun _ => 0), cI G hSK 13 (fun _ => 0), cZ G hSN 13 (fun _ => 0)] := hD
  refine g_putF X hin hP hD hS 0 5 5 (v := .ref hMT) rfl rfl inX5 tyX5 tyX5_ok nmX5 (by decide) fl_X5_37 rfl rfl rfl rfl rfl (Nat.le_of_ble_eq_true rfl) dX5_init_54 (fun H locs hP hD hS => ?_)
  replace hP : va_P G.1 gCl [(hPB, .inr (5, [.ref hTX, .int 0, .ref hPI, .ref hBO, .ref hLO, .ref hMT, .null])), cI G hTX 160 (fun _ => 0), cPI hPI 0 0 0 0 0 0 0 0, cBO hBO 0 0 0 0 0 0 0 hBS 0 0, cI G hBS 64 (fun _ => 0), cLO hLO 0 0 0 hMA 0, cI G hMA 500 (fun _ => 0), cMT hMT hMC hGL hBL hGB hBB hSK hSN, cI G hMC 169 (fun _ => 0), cI G hGL 13 (fun _ => 0), cI G hBL 13 (fun _ => 0), cI G hGB 13 (fun _ => 0), cI G hBB 13 (fun _ => 0), cI G hSK 13 (fun _ => 0), cZ G hSN 13 (fun _ => 0)] H := hP
  replace hD : va_D A [(hPB, .inr (5, [.ref hTX, .int 0, .ref hPI, .ref hBO, .ref hLO, .ref hMT, .null])), cI G hTX 160 (fun _ => 0), cPI hPI 0 0 0 0 0 0 0 0, cBO hBO 0 0 0 0 0 0 0 hBS 0 0, cI G hBS 64 (fun _ => 0), cLO hLO 0 0 0 hMA 0, cI G hMA 500 (fun _ => 0), cMT hMT hMC hGL hBL hGB hBB hSK hSN, cI G hMC 169 (fun _ => 0), cI G hGL 13 (fun _ => 0), cI G hBL 13 (fun _ => 0), cI G hGB 13 (fun _ => 0), cI G hBB 13 (fun _ => 0), cI G hSK 13 (fun _ => 0), cZ G hSN 13 (fun _ => 0)] := hD
  refine lv_aload_n X.1 X.2.1 dX5_init_57 rfl (lv_at hl 0 rfl) ?_
  refine g_new X hP hD hS 4 (fs := [.int 0, .int 0, .null, .null, .null, .null, .null, .int 0, .int 0]) rfl inX4 tyX4 tyX4_ok ww_170 ww_171 ww_6 (by decide +kernel) (Nat.le_of_ble_eq_true rfl) (Nat.le_of_ble_eq_true rfl) dX5_init_58 (fun hSE H hP hD hS => ?_)
  replace hP : va_P G.1 gCl [(hPB, .inr (5, [.ref hTX, .int 0, .ref hPI, .ref hBO, .ref hLO, .ref hMT, .null])), cI G hTX 160 (fun _ => 0), cPI hPI 0 0 0 0 0 0 0 0, cBO hBO 0 0 0 0 0 0 0 hBS 0 0, cI G hBS 64 (fun _ => 0), cLO hLO 0 0 0 hMA 0, cI G hMA 500 (fun _ => 0), cMT hMT hMC hGL hBL hGB hBB hSK hSN, cI G hMC 169 (fun _ => 0), cI G hGL 13 (fun _ => 0), cI G hBL 13 (fun _ => 0), cI G hGB 13 (fun _ => 0), cI G hBB 13 (fun _ => 0), cI G hSK 13 (fun _ => 0), cZ G hSN 13 (fun _ => 0), (hSE, .inr (4, [.int 0, .int 0, .null, .null, .null, .null, .null, .int 0, .int 0]))] H := hP
  replace hD : va_D A [(hPB, .inr (5, [.ref hTX, .int 0, .ref hPI, .ref hBO, .ref hLO, .ref hMT, .null])), cI G hTX 160 (fun _ => 0), cPI hPI 0 0 0 0 0 0 0 0, cBO hBO 0 0 0 0 0 0 0 hBS 0 0, cI G hBS 64 (fun _ => 0), cLO hLO 0 0 0 hMA 0, cI G hMA 500 (fun _ => 0), cMT hMT hMC hGL hBL hGB hBB hSK hSN, cI G hMC 169 (fun _ => 0), cI G hGL 13 (fun _ => 0), cI G hBL 13 (fun _ => 0), cI G hGB 13 (fun _ => 0), cI G hBB 13 (fun _ => 0), cI G hSK 13 (fun _ => 0), cZ G hSN 13 (fun _ => 0), (hSE, .inr (4, [.int 0, .int 0, .null, .null, .null, .null, .null, .int 0, .int 0]))] := hD
  refine lv_dup X.1 X.2.1 dX5_init_61 rfl ?_
  refine g_cv (wr := [(hPB, .inr (5, [.ref hTX, .int 0, .ref hPI, .ref hBO, .ref hLO, .ref hMT, .null])), cI G hTX 160 (fun _ => 0), cPI hPI 0 0 0 0 0 0 0 0, cBO hBO 0 0 0 0 0 0 0 hBS 0 0, cI G hBS 64 (fun _ => 0), cLO hLO 0 0 0 hMA 0, cI G hMA 500 (fun _ => 0), cMT hMT hMC hGL hBL hGB hBB hSK hSN, cI G hMC 169 (fun _ => 0), cI G hGL 13 (fun _ => 0), cI G hBL 13 (fun _ => 0), cI G hGB 13 (fun _ => 0), cI G hBB 13 (fun _ => 0), cI G hSK 13 (fun _ => 0), cZ G hSN 13 (fun _ => 0)]) X [15] [0, 1, 2, 3, 4, 5, 6, 7, 8, 9, 10, 11, 12, 13, 14] (g_rI (As := []) (rest := [.ref hSE, .ref hPB]) X (c_SE_init l G hSE _) lk_X5_43 rfl rfl rfl ⟨Nat.le_of_ble_eq_true rfl, Nat.le_of_ble_eq_true rfl⟩ hP hD hS [15] rfl rfl rfl hl.1 rfl (Nat.le_of_ble_eq_true rfl) dX5_init_62 ⟨Nat.le_of_ble_eq_true rfl, Nat.le_of_ble_eq_true rfl⟩) hP hD hS rfl rfl rfl (by decide) (fun u H locs _ hP hD hS => ?_)
  obtain ⟨hSB, hSL, hSP, hSU, hSS⟩ := u
  replace hP : va_P G.1 gCl [(hPB, .inr (5, [.ref hTX, .int 0, .ref hPI, .ref hBO, .ref hLO, .ref hMT, .null])), cI G hTX 160 (fun _ => 0), cPI hPI 0 0 0 0 0 0 0 0, cBO hBO 0 0 0 0 0 0 0 hBS 0 0, cI G hBS 64 (fun _ => 0), cLO hLO 0 0 0 hMA 0, cI G hMA 500 (fun _ => 0), cMT hMT hMC hGL hBL hGB hBB hSK hSN, cI G hMC 169 (fun _ => 0), cI G hGL 13 (fun _ => 0), cI G hBL 13 (fun _ => 0), cI G hGB 13 (fun _ => 0), cI G hBB 13 (fun _ => 0), cI G hSK 13 (fun _ => 0), cZ G hSN 13 (fun _ => 0), cSE hSE 0 0 hSB hSL hSP hSU hSS 0 0, cJ G hSB 128 (fun _ => 0), cI G hSL 128 (fun _ => 0), cI G hSP 128 (fun _ => 0), cI G hSU 128 (fun _ => 0), cI G hSS 256 (fun _ => 0)] H := hP
  replace hD : va_D A [(hPB, .inr (5, [.ref hTX, .int 0, .ref hPI, .ref hBO, .ref hLO, .ref hMT, .null])), cI G hTX 160 (fun _ => 0), cPI hPI 0 0 0 0 0 0 0 0, cBO hBO 0 0 0 0 0 0 0 hBS 0 0, cI G hBS 64 (fun _ => 0), cLO hLO 0 0 0 hMA 0, cI G hMA 500 (fun _ => 0), cMT hMT hMC hGL hBL hGB hBB hSK hSN, cI G hMC 169 (fun _ => 0), cI G hGL 13 (fun _ => 0), cI G hBL 13 (fun _ => 0), cI G hGB 13 (fun _ => 0), cI G hBB 13 (fun _ => 0), cI G hSK 13 (fun _ => 0), cZ G hSN 13 (fun _ => 0), cSE hSE 0 0 hSB hSL hSP hSU hSS 0 0, cJ G hSB 128 (fun _ => 0), cI G hSL 128 (fun _ => 0), cI G hSP 128 (fun _ => 0), cI G hSU 128 (fun _ => 0), cI G hSS 256 (fun _ => 0)] := hD
  refine g_putF X hin hP hD hS 0 5 6 (v := .ref hSE) rfl rfl inX5 tyX5 tyX5_ok nmX5 (by decide) fl_X5_44 rfl rfl rfl rfl rfl (Nat.le_of_ble_eq_true rfl) dX5_init_65 (fun H locs hP hD hS => ?_)
  replace hP : va_P G.1 gCl [(hPB, .inr (5, [.ref hTX, .int 0, .ref hPI, .ref hBO, .ref hLO, .ref hMT, .ref hSE])), cI G hTX 160 (fun _ => 0), cPI hPI 0 0 0 0 0 0 0 0, cBO hBO 0 0 0 0 0 0 0 hBS 0 0, cI G hBS 64 (fun _ => 0), cLO hLO 0 0 0 hMA 0, cI G hMA 500 (fun _ => 0), cMT hMT hMC hGL hBL hGB hBB hSK hSN, cI G hMC 169 (fun _ => 0), cI G hGL 13 (fun _ => 0), cI G hBL 13 (fun _ => 0), cI G hGB 13 (fun _ => 0), cI G hBB 13 (fun _ => 0), cI G hSK 13 (fun _ => 0), cZ G hSN 13 (fun _ => 0), cSE hSE 0 0 hSB hSL hSP hSU hSS 0 0, cJ G hSB 128 (fun _ => 0), cI G hSL 128 (fun _ => 0), cI G hSP 128 (fun _ => 0), cI G hSU 128 (fun _ => 0), cI G hSS 256 (fun _ => 0)] H := hP
  replace hD : va_D A [(hPB, .inr (5, [.ref hTX, .int 0, .ref hPI, .ref hBO, .ref hLO, .ref hMT, .ref hSE])), cI G hTX 160 (fun _ => 0), cPI hPI 0 0 0 0 0 0 0 0, cBO hBO 0 0 0 0 0 0 0 hBS 0 0, cI G hBS 64 (fun _ => 0), cLO hLO 0 0 0 hMA 0, cI G hMA 500 (fun _ => 0), cMT hMT hMC hGL hBL hGB hBB hSK hSN, cI G hMC 169 (fun _ => 0), cI G hGL 13 (fun _ => 0), cI G hBL 13 (fun _ => 0), cI G hGB 13 (fun _ => 0), cI G hBB 13 (fun _ => 0), cI G hSK 13 (fun _ => 0), cZ G hSN 13 (fun _ => 0), cSE hSE 0 0 hSB hSL hSP hSU hSS 0 0, cJ G hSB 128 (fun _ => 0), cI G hSL 128 (fun _ => 0), cI G hSP 128 (fun _ => 0), cI G hSU 128 (fun _ => 0), cI G hSS 256 (fun _ => 0)] := hD
  refine W.widen (k := 20) (n := 1778) (Nat.le_of_ble_eq_true rfl) (Nat.le_of_ble_eq_true rfl) ?_
  exact g_vret X (hTX, hPI, hBO, hBS, hLO, hMA, hMT, hMC, hGL, hBL, hGB, hBB, hSK, hSN, hSE, hSB, hSL, hSP, hSU, hSS) trivial hP hD hS dX5_init_68
abbrev rm_MO_init : Room := { frames := 1, cells := 10, slots := 87593, locals := 40 }
set_option maxHeartbeats 4000000 in
set_option maxRecDepth 100000 in
theorem c_MO_init (l : Launch) (G : gEnv) (hMO : Nat) (sz : Nat) : Met l yX6_init (Cond.code yX6_init cX6_init 1 none :: wAll) rm_MO_init (gPc G [.ref hMO] [(hMO, .inr (6, [.int 0, .int 0, .null, .int 0, .int 0, .int 0, .int 0, .int 0, .int 0, .long 0, .long 0, .long 0, .long 0, .long 0, .long 0, .int 0, .int 0, .int 0, .null, .int 0, .int 0, .int 0, .null, .null, .null, .null, .null, .null, .null, .null]))] sz) (gQv G (fun (_ : Nat × Nat × Nat × Nat × Nat × Nat × Nat × Nat × Nat × Nat) => True) (fun (u : Nat × Nat × Nat × Nat × Nat × Nat × Nat × Nat × Nat × Nat) => [cMO hMO 0 0 (u.1) 0 0 0 0 0 0 0 0 0 0 0 0 0 0 0 (u.2.1) 0 0 0 (u.2.2.1) (u.2.2.2.1) (u.2.2.2.2.1) (u.2.2.2.2.2.1) (u.2.2.2.2.2.2.1) (u.2.2.2.2.2.2.2.1) (u.2.2.2.2.2.2.2.2.1) (u.2.2.2.2.2.2.2.2.2), cI G (u.1) 160 (fun _ => 0), cI G (u.2.1) 500 (fun _ => 0), cJ G (u.2.2.1) 10001 (fun _ => 0), cI G (u.2.2.2.1) 10001 (fun _ => 0), cI G (u.2.2.2.2.1) 10001 (fun _ => 0), cI G (u.2.2.2.2.2.1) 10001 (fun _ => 0), cI G (u.2.2.2.2.2.2.1) 32768 (fun _ => 0), cI G (u.2.2.2.2.2.2.2.1) 10001 (fun _ => 0), cI G (u.2.2.2.2.2.2.2.2.1) 64 (fun _ => 0), cI G (u.2.2.2.2.2.2.2.2.2) 4096 (fun _ => 0)]) (va_A [(hMO, .inr (6, [.int 0, .int 0, .null, .int 0, .int 0, .int 0, .int 0, .int 0, .int 0, .long 0, .long 0, .long 0, .long 0, .long 0, .long 0, .int 0, .int 0, .int 0, .null, .int 0, .int 0, .int 0, .null, .null, .null, .null, .null, .null, .null, .null]))] sz)) 10 87593 (va_A [(hMO, .inr (6, [.int 0, .int 0, .null, .int 0, .int 0, .int 0, .int 0, .int 0, .int 0, .long 0, .long 0, .long 0, .long 0, .long 0, .long 0, .int 0, .int 0, .int 0, .null, .int 0, .int 0, .int 0, .null, .null, .null, .null, .null, .null, .null, .null]))] sz) := by
  refine Met.ofW (cc := cX6_init) (maxL := 1) (ret := none) (by decide) rfl ?_
  intro p e s m args below meth c s₁ B hml hv
  obtain ⟨rfl, hsz, hP, hK, hD0⟩ := hv
  subst hsz
  have X := gX.ofB (ws := [(hMO, .inr (6, [.int 0, .int 0, .null, .int 0, .int 0, .int 0, .int 0, .int 0, .int 0, .long 0, .long 0, .long 0, .long 0, .long 0, .long 0, .int 0, .int 0, .int 0, .null, .int 0, .int 0, .int 0, .null, .null, .null, .null, .null, .null, .null, .null]))]) B hml hK hD0
  have hin : meth.name = "<init>" := (name_of_methodNamed B.named B.method).1
  have hD := hD0.self (sz := s.heap.size)
  generalize hAe : va_A [(hMO, .inr (6, [.int 0, .int 0, .null, .int 0, .int 0, .int 0, .int 0, .int 0, .int 0, .long 0, .long 0, .long 0, .long 0, .long 0, .long 0, .int 0, .int 0, .int 0, .null, .int 0, .int 0, .int 0, .null, .null, .null, .null, .null, .null, .null, .null]))] s.heap.size = A at X hD ⊢
  have hS : va_S A s.heap s.heap [] := va_S.rf
  have hl := lv_entry ([.ref hMO]) (n := 1) (Nat.le_of_ble_eq_true rfl)
  rw [lg_entry_eq]
  generalize (lg_sl ([.ref hMO]) ++ List.replicate (1 - (lg_sl ([.ref hMO])).length) Slot.unset).toArray = ls at hl ⊢
  have hl : lv_has ls 1 [(0, .ref hMO)] := hl
  dsimp only [headSpec]
  refine lv_aload_n X.1 X.2.1 dX6_init_0 rfl (lv_at hl 0 rfl) ?_
  refine g_objInit X ww_707 hl.1 dX6_init_1 (Nat.le_of_ble_eq_true rfl) (Nat.le_of_ble_eq_true rfl) ?_
  refine lv_aload_n X.1 X.2.1 dX6_init_4 rfl (lv_at hl 0 rfl) ?_
  refine lv_sipush (v := (160 : Int32)) X.1 X.2.1 dX6_init_5 (by decide) ?_
  refine g_newI X wa_I hP hD hS 160 (by decide) (by decide) (Nat.le_of_ble_eq_true rfl) (Nat.le_of_ble_eq_true rfl) (Nat.le_of_ble_eq_true rfl) dX6_init_8 (fun hTM H hP hD hS => ?_)
  replace hP : va_P G.1 gCl [(hMO, .inr (6, [.int 0, .int 0, .null, .int 0, .int 0, .int 0, .int 0, .int 0, .int 0, .long 0, .long 0, .long 0, .long 0, .long 0, .long 0, .int 0, .int 0, .int 0, .null, .int 0, .int 0, .int 0, .null, .null, .null, .null, .null, .null, .null, .null])), cI G hTM 160 (fun _ => 0)] H := hP
  replace hD : va_D A [(hMO, .inr (6, [.int 0, .int 0, .null, .int 0, .int 0, .int 0, .int 0, .int 0, .int 0, .long 0, .long 0, .long 0, .long 0, .long 0, .long 0, .int 0, .int 0, .int 0, .null, .int 0, .int 0, .int 0, .null, .null, .null, .null, .null, .null, .null, .null])), cI G hTM 160 (fun _ => 0)] := hD
  refine g_putF X hin hP hD hS 0 6 2 (v := .ref hTM) rfl rfl inX6 tyX6 tyX6_ok nmX6 (by decide) fl_X6_7 rfl rfl rfl rfl rfl (Nat.le_of_ble_eq_true rfl) dX6_init_10 (fun H locs hP hD hS => ?_)
  replace hP : va_P G.1 gCl [(hMO, .inr (6, [.int 0, .int 0, .ref hTM, .int 0, .int 0, .int 0, .int 0, .int 0, .int 0, .long 0, .long 0, .long 0, .long 0, .long 0, .long 0, .int 0, .int 0, .int 0, .null, .int 0, .int 0, .int 0, .null, .null, .null, .null, .null, .null, .null, .null])), cI G hTM 160 (fun _ => 0)] H := hP
  replace hD : va_D A [(hMO, .inr (6, [.int 0, .int 0, .ref hTM, .int 0, .int 0, .int 0, .int 0, .int 0, .int 0, .long 0, .long 0, .long 0, .long 0, .long 0, .long 0, .int 0, .int 0, .int 0, .null, .int 0, .int 0, .int 0, .null, .null, .null, .null, .null, .null, .null, .null])), cI G hTM 160 (fun _ => 0)] := hD
  refine lv_aload_n X.1 X.2.1 dX6_init_13 rfl (lv_at hl 0 rfl) ?_
  refine lv_sipush (v := (500 : Int32)) X.1 X.2.1 dX6_init_14 (by decide) ?_
  refine g_newI X wa_I hP hD hS 500 (by decide) (by decide) (Nat.le_of_ble_eq_true rfl) (Nat.le_of_ble_eq_true rfl) (Nat.le_of_ble_eq_true rfl) dX6_init_17 (fun hDO H hP hD hS => ?_)
  replace hP : va_P G.1 gCl [(hMO, .inr (6, [.int 0, .int 0, .ref hTM, .int 0, .int 0, .int 0, .int 0, .int 0, .int 0, .long 0, .long 0, .long 0, .long 0, .long 0, .long 0, .int 0, .int 0, .int 0, .null, .int 0, .int 0, .int 0, .null, .null, .null, .null, .null, .null, .null, .null])), cI G hTM 160 (fun _ => 0), cI G hDO 500 (fun _ => 0)] H := hP
  replace hD : va_D A [(hMO, .inr (6, [.int 0, .int 0, .ref hTM, .int 0, .int 0, .int 0, .int 0, .int 0, .int 0, .long 0, .long 0, .long 0, .long 0, .long 0, .long 0, .int 0, .int 0, .int 0, .null, .int 0, .int 0, .int 0, .null, .null, .null, .null, .null, .null, .null, .null])), cI G hTM 160 (fun _ => 0), cI G hDO 500 (fun _ => 0)] := hD
  refine g_putF X hin hP hD hS 0 6 18 (v := .ref hDO) rfl rfl inX6 tyX6 tyX6_ok nmX6 (by decide) fl_X6_13 rfl rfl rfl rfl rfl (Nat.le_of_ble_eq_true rfl) dX6_init_19 (fun H locs hP hD hS => ?_)
  replace hP : va_P G.1 gCl [(hMO, .inr (6, [.int 0, .int 0, .ref hTM, .int 0, .int 0, .int 0, .int 0, .int 0, .int 0, .long 0, .long 0, .long 0, .long 0, .long 0, .long 0, .int 0, .int 0, .int 0, .ref hDO, .int 0, .int 0, .int 0, .null, .null, .null, .null, .null, .null, .null, .null])), cI G hTM 160 (fun _ => 0), cI G hDO 500 (fun _ => 0)] H := hP
  replace hD : va_D A [(hMO, .inr (6, [.int 0, .int 0, .ref hTM, .int 0, .int 0, .int 0, .int 0, .int 0, .int 0, .long 0, .long 0, .long 0, .long 0, .long 0, .long 0, .int 0, .int 0, .int 0, .ref hDO, .int 0, .int 0, .int 0, .null, .null, .null, .null, .null, .null, .null, .null])), cI G hTM 160 (fun _ => 0), cI G hDO 500 (fun _ => 0)] := hD
  refine lv_aload_n X.1 X.2.1 dX6_init_22 rfl (lv_at hl 0 rfl) ?_
  refine lv_sipush (v := (10001 : Int32)) X.1 X.2.1 dX6_init_23 (by decide) ?_
  refine g_newJ X wa_J hP hD hS 10001 (by decide) (by decide) (Nat.le_of_ble_eq_true rfl) (Nat.le_of_ble_eq_true rfl) (Nat.le_of_ble_eq_true rfl) dX6_init_26 (fun hXB H hP hD hS => ?_)
  replace hP : va_P G.1 gCl [(hMO, .inr (6, [.int 0, .int 0, .ref hTM, .int 0, .int 0, .int 0, .int 0, .int 0, .int 0, .long 0, .long 0, .long 0, .long 0, .long 0, .long 0, .int 0, .int 0, .int 0, .ref hDO, .int 0, .int 0, .int 0, .null, .null, .null, .null, .null, .null, .null, .null])), cI G hTM 160 (fun _ => 0), cI G hDO 500 (fun _ => 0), cJ G hXB 10001 (fun _ => 0)] H := hP
  replace hD : va_D A [(hMO, .inr (6, [.int 0, .int 0, .ref hTM, .int 0, .int 0, .int 0, .int 0, .int 0, .int 0, .long 0, .long 0, .long 0, .long 0, .long 0, .long 0, .int 0, .int 0, .int 0, .ref hDO, .int 0, .int 0, .int 0, .null, .null, .null, .null, .null, .null, .null, .null])), cI G hTM 160 (fun _ => 0), cI G hDO 500 (fun _ => 0), cJ G hXB 10001 (fun _ => 0)] := hD
  refine g_putF X hin hP hD hS 0 6 22 (v := .ref hXB) rfl rfl inX6 tyX6 tyX6_ok nmX6 (by decide) fl_X6_16 rfl rfl rfl rfl rfl (Nat.le_of_ble_eq_true rfl) dX6_init_28 (fun H locs hP hD hS => ?_)
  replace hP : va_P G.1 gCl [(hMO, .inr (6, [.int 0, .int 0, .ref hTM, .int 0, .int 0, .int 0, .int 0, .int 0, .int 0, .long 0, .long 0, .long 0, .long 0, .long 0, .long 0, .int 0, .int 0, .int 0, .ref hDO, .int 0, .int 0, .int 0, .ref hXB, .null, .null, .null, .null, .null, .null, .null])), cI G hTM 160 (fun _ => 0), cI G hDO 500 (fun _ => 0), cJ G hXB 10001 (fun _ => 0)] H := hP
  replace hD : va_D A [(hMO, .inr (6, [.int 0, .int 0, .ref hTM, .int 0, .int 0, .int 0, .int 0, .int 0, .int 0, .long 0, .long 0, .long 0, .long 0, .long 0, .long 0, .int 0, .int 0, .int 0, .ref hDO, .int 0, .int 0, .int 0, .ref hXB, .null, .null, .null, .null, .null, .null, .null])), cI G hTM 160 (fun _ => 0), cI G hDO 500 (fun _ => 0), cJ G hXB 10001 (fun _ => 0)] := hD
  refine lv_aload_n X.1 X.2.1 dX6_init_31 rfl (lv_at hl 0 rfl) ?_
  refine lv_sipush (v := (10001 : Int32)) X.1 X.2.1 dX6_init_32 (by decide) ?_
  refine g_newI X wa_I hP hD hS 10001 (by decide) (by decide) (Nat.le_of_ble_eq_true rfl) (Nat.le_of_ble_eq_true rfl) (Nat.le_of_ble_eq_true rfl) dX6_init_35 (fun hXC H hP hD hS => ?_)
  replace hP : va_P G.1 gCl [(hMO, .inr (6, [.int 0, .int 0, .ref hTM, .int 0, .int 0, .int 0, .int 0, .int 0, .int 0, .long 0, .long 0, .long 0, .long 0, .long 0, .long 0, .int 0, .int 0, .int 0, .ref hDO, .int 0, .int 0, .int 0, .ref hXB, .null, .null, .null, .null, .null, .null, .null])), cI G hTM 160 (fun _ => 0), cI G hDO 500 (fun _ => 0), cJ G hXB 10001 (fun _ => 0), cI G hXC 10001 (fun _ => 0)] H := hP
  replace hD : va_D A [(hMO, .inr (6, [.int 0, .int 0, .ref hTM, .int 0, .int 0, .int 0, .int 0, .int 0, .int 0, .long 0, .long 0, .long 0, .long 0, .long 0, .long 0, .int 0, .int 0, .int 0, .ref hDO, .int 0, .int 0, .int 0, .ref hXB, .null, .null, .null, .null, .null, .null, .null])), cI G hTM 160 (fun _ => 0), cI G hDO 500 (fun _ => 0), cJ G hXB 10001 (fun _ => 0), cI G hXC 10001 (fun _ => 0)] := hD
  refine g_putF X hin hP hD hS 0 6 23 (v := .ref hXC) rfl rfl inX6 tyX6 tyX6_ok nmX6 (by decide) fl_X6_20 rfl rfl rfl rfl rfl (Nat.le_of_ble_eq_true rfl) dX6_init_37 (fun H locs hP hD hS => ?_)
  replace hP : va_P G.1 gCl [(hMO, .inr (6, [.int 0, .int 0, .ref hTM, .int 0, .int 0, .int 0, .int 0, .int 0, .int 0, .long 0, .long 0, .long 0, .long 0, .long 0, .long 0, .int 0, .int 0, .int 0, .ref hDO, .int 0, .int 0, .int 0, .ref hXB, .ref hXC, .null, .null, .null, .null, .null, .null])), cI G hTM 160 (fun _ => 0), cI G hDO 500 (fun _ => 0), cJ G hXB 10001 (fun _ => 0), cI G hXC 10001 (fun _ => 0)] H := hP
  replace hD : va_D A [(hMO, .inr (6, [.int 0, .int 0, .ref hTM, .int 0, .int 0, .int 0, .int 0, .int 0, .int 0, .long 0, .long 0, .long 0, .long 0, .long 0, .long 0, .int 0, .int 0, .int 0, .ref hDO, .int 0, .int 0, .int 0, .ref hXB, .ref hXC, .null, .null, .null, .null, .null, .null])), cI G hTM 160 (fun _ => 0), cI G hDO 500 (fun _ => 0), cJ G hXB 10001 (fun _ => 0), cI G hXC 10001 (fun _ => 0)] := hD
  refine lv_aload_n X.1 X.2.1 dX6_init_40 rfl (lv_at hl 0 rfl) ?_
  refine lv_sipush (v := (10001 : Int32)) X.1 X.2.1 dX6_init_41 (by decide) ?_
  refine g_newI X wa_I hP hD hS 10001 (by decide) (by decide) (Nat.le_of_ble_eq_true rfl) (Nat.le_of_ble_eq_true rfl) (Nat.le_of_ble_eq_true rfl) dX6_init_44 (fun hXF H hP hD hS => ?_)
  replace hP : va_P G.1 gCl [(hMO, .inr (6, [.int 0, .int 0, .ref hTM, .int 0, .int 0, .int 0, .int 0, .int 0, .int 0, .long 0, .long 0, .long 0, .long 0, .long 0, .long 0, .int 0, .int 0, .int 0, .ref hDO, .int 0, .int 0, .int 0, .ref hXB, .ref hXC, .null, .null, .null, .null, .null, .null])), cI G hTM 160 (fun _ => 0), cI G hDO 500 (fun _ => 0), cJ G hXB 10001 (fun _ => 0), cI G hXC 10001 (fun _ => 0), cI G hXF 10001 (fun _ => 0)] H := hP
  replace hD : va_D A [(hMO, .inr (6, [.int 0, .int 0, .ref hTM, .int 0, .int 0, .int 0, .int 0, .int 0, .int 0, .long 0, .long 0, .long 0, .long 0, .long 0, .long 0, .int 0, .int 0, .int 0, .ref hDO, .int 0, .int 0, .int 0, .ref hXB, .ref hXC, .null, .null, .null, .null, .null, .null])), cI G hTM 160 (fun _ => 0), cI G hDO 500 (fun _ => 0), cJ G hXB 10001 (fun _ => 0), cI G hXC 10001 (fun _ => 0), cI G hXF 10001 (fun _ => 0)] := hD
  refine g_putF X hin hP hD hS 0 6 24 (v := .ref hXF) rfl rfl inX6 tyX6 tyX6_ok nmX6 (by decide) fl_X6_23 rfl rfl rfl rfl rfl (Nat.le_of_ble_eq_true rfl) dX6_init_46 (fun H locs hP hD hS => ?_)
  replace hP : va_P G.1 gCl [(hMO, .inr (6, [.int 0, .int 0, .ref hTM, .int 0, .int 0, .int 0, .int 0, .int 0, .int 0, .long 0, .long 0, .long 0, .long 0, .long 0, .long 0, .int 0, .int 0, .int 0, .ref hDO, .int 0, .int 0, .int 0, .ref hXB, .ref hXC, .ref hXF, .null, .null, .null, .null, .null])), cI G hTM 160 (fun _ => 0), cI G hDO 500 (fun _ => 0), cJ G hXB 10001 (fun _ => 0), cI G hXC 10001 (fun _ => 0), cI G hXF 10001 (fun _ => 0)] H := hP
  replace hD : va_D A [(hMO, .inr (6, [.int 0, .int 0, .ref hTM, .int 0, .int 0, .int 0, .int 0, .int 0, .int 0, .long 0, .long 0, .long 0, .long 0, .long 0, .long 0, .int 0, .int 0, .int 0, .ref hDO, .int 0, .int 0, .int 0, .ref hXB, .ref hXC, .ref hXF, .null, .null, .null, .null, .null])), cI G hTM 160 (fun _ => 0), cI G hDO 500 (fun _ => 0), cJ G hXB 10001 (fun _ => 0), cI G hXC 10001 (fun _ => 0), cI G hXF 10001 (fun _ => 0)] := hD
  refine lv_aload_n X.1 X.2.1 dX6_init_49 rfl (lv_at hl 0 rfl) ?_
  refine lv_sipush (v := (10001 : Int32)) X.1 X.2.1 dX6_init_50 (by decide) ?_
  refine g_newI X wa_I hP hD hS 10001 (by decide) (by decide) (Nat.le_of_ble_eq_true rfl) (Nat.le_of_ble_eq_true rfl) (Nat.le_of_ble_eq_true rfl) dX6_init_53 (fun hXY H hP hD hS => ?_)
  replace hP : va_P G.1 gCl [(hMO, .inr (6, [.int 0, .int 0, .ref hTM, .int 0, .int 0, .int 0, .int 0, .int 0, .int 0, .long 0, .long 0, .long 0, .long 0, .long 0, .long 0, .int 0, .int 0, .int 0, .ref hDO, .int 0, .int 0, .int 0, .ref hXB, .ref hXC, .ref hXF, .null, .null, .null, .null, .null])), cI G hTM 160 (fun _ => 0), cI G hDO 500 (fun _ => 0), cJ G hXB 10001 (fun _ => 0), cI G hXC 10001 (fun _ => 0), cI G hXF 10001 (fun _ => 0), cI G hXY 10001 (fun _ => 0)] H := hP
  replace hD : va_D A [(hMO, .inr (6, [.int 0, .int 0, .ref hTM, .int 0, .int 0, .int 0, .int 0, .int 0, .int 0, .long 0, .long 0, .long 0, .long 0, .long 0, .long 0, .int 0, .int 0, .int 0, .ref hDO, .int 0, .int 0, .int 0, .ref hXB, .ref hXC, .ref hXF, .null, .null, .null, .null, .null])), cI G hTM 160 (fun _ => 0), cI G hDO 500 (fun _ => 0), cJ G hXB 10001 (fun _ => 0), cI G hXC 10001 (fun _ => 0), cI G hXF 10001 (fun _ => 0), cI G hXY 10001 (fun _ => 0)] := hD
  refine g_putF X hin hP hD hS 0 6 25 (v := .ref hXY) rfl rfl inX6 tyX6 tyX6_ok nmX6 (by decide) fl_X6_26 rfl rfl rfl rfl rfl (Nat.le_of_ble_eq_true rfl) dX6_init_55 (fun H locs hP hD hS => ?_)
  replace hP : va_P G.1 gCl [(hMO, .inr (6, [.int 0, .int 0, .ref hTM, .int 0, .int 0, .int 0, .int 0, .int 0, .int 0, .long 0, .long 0, .long 0, .long 0, .long 0, .long 0, .int 0, .int 0, .int 0, .ref hDO, .int 0, .int 0, .int 0, .ref hXB, .ref hXC, .ref hXF, .ref hXY, .null, .null, .null, .null])), cI G hTM 160 (fun _ => 0), cI G hDO 500 (fun _ => 0), cJ G hXB 10001 (fun _ => 0), cI G hXC 10001 (fun _ => 0), cI G hXF 10001 (fun _ => 0), cI G hXY 10001 (fun _ => 0)] H := hP
  replace hD : va_D A [(hMO, .inr (6, [.int 0, .int 0, .ref hTM, .int 0, .int 0, .int 0, .int 0, .int 0, .int 0, .long 0, .long 0, .long 0, .long 0, .long 0, .long 0, .int 0, .int 0, .int 0, .ref hDO, .int 0, .int 0, .int 0, .ref hXB, .ref hXC, .ref hXF, .ref hXY, .null, .null, .null, .null])), cI G hTM 160 (fun _ => 0), cI G hDO 500 (fun _ => 0), cJ G hXB 10001 (fun _ => 0), cI G hXC 10001 (fun _ => 0), cI G hXF 10001 (fun _ => 0), cI G hXY 10001 (fun _ => 0)] := hD
  refine lv_aload_n X.1 X.2.1 dX6_init_58 rfl (lv_at hl 0 rfl) ?_
  refine lv_ldc (v := (32768 : Int32)) X.1 X.2.1 X.2.2.2.1 (X.2.2.2.2.1 _ cn_X6_29) dX6_init_59 ?_
  refine g_newI X wa_I hP hD hS 32768 (by decide) (by decide) (Nat.le_of_ble_eq_true rfl) (Nat.le_of_ble_eq_true rfl) (Nat.le_of_ble_eq_true rfl) dX6_init_61 (fun hXS H hP hD hS => ?_)
  replace hP : va_P G.1 gCl [(hMO, .inr (6, [.int 0, .int 0, .ref hTM, .int 0, .int 0, .int 0, .int 0, .int 0, .int 0, .long 0, .long 0, .long 0, .long 0, .long 0, .long 0, .int 0, .int 0, .int 0, .ref hDO, .int 0, .int 0, .int 0, .ref hXB, .ref hXC, .ref hXF, .ref hXY, .null, .null, .null, .null])), cI G hTM 160 (fun _ => 0), cI G hDO 500 (fun _ => 0), cJ G hXB 10001 (fun _ => 0), cI G hXC 10001 (fun _ => 0), cI G hXF 10001 (fun _ => 0), cI G hXY 10001 (fun _ => 0), cI G hXS 32768 (fun _ => 0)] H := hP
  replace hD : va_D A [(hMO, .inr (6, [.int 0, .int 0, .ref hTM, .int 0, .int 0, .int 0, .int 0, .int 0, .int 0, .long 0, .long 0, .long 0, .long 0, .long 0, .long 0, .int 0, .int 0, .int 0, .ref hDO, .int 0, .int 0, .int 0, .ref hXB, .ref hXC, .ref hXF, .ref hXY, .null, .null, .null, .null])), cI G hTM 160 (fun _ => 0), cI G hDO 500 (fun _ => 0), cJ G hXB 10001 (fun _ => 0), cI G hXC 10001 (fun _ => 0), cI G hXF 10001 (fun _ => 0), cI G hXY 10001 (fun _ => 0), cI G hXS 32768 (fun _ => 0)] := hD
  refine g_putF X hin hP hD hS 0 6 26 (v := .ref hXS) rfl rfl inX6 tyX6 tyX6_ok nmX6 (by decide) fl_X6_30 rfl rfl rfl rfl rfl (Nat.le_of_ble_eq_true rfl) dX6_init_63 (fun H locs hP hD hS => ?_)
  replace hP : va_P G.1 gCl [(hMO, .inr (6, [.int 0, .int 0, .ref hTM, .int 0, .int 0, .int 0, .int 0, .int 0, .int 0, .long 0, .long 0, .long 0, .long 0, .long 0, .long 0, .int 0, .int 0, .int 0, .ref hDO, .int 0, .int 0, .int 0, .ref hXB, .ref hXC, .ref hXF, .ref hXY, .ref hXS, .null, .null, .null])), cI G hTM 160 (fun _ => 0), cI G hDO 500 (fun _ => 0), cJ G hXB 10001 (fun _ => 0), cI G hXC 10001 (fun _ => 0), cI G hXF 10001 (fun _ => 0), cI G hXY 10001 (fun _ => 0), cI G hXS 32768 (fun _ => 0)] H := hP
  replace hD : va_D A [(hMO, .inr (6, [.int 0, .int 0, .ref hTM, .int 0, .int 0, .int 0, .int 0, .int 0, .int 0, .long 0, .long 0, .long 0, .long 0, .long 0, .long 0, .int 0, .int 0, .int 0, .ref hDO, .int 0, .int 0, .int 0, .ref hXB, .ref hXC, .ref hXF, .ref hXY, .ref hXS, .null, .null, .null])), cI G hTM 160 (fun _ => 0), cI G hDO 500 (fun _ => 0), cJ G hXB 10001 (fun _ => 0), cI G hXC 10001 (fun _ => 0), cI G hXF 10001 (fun _ => 0), cI G hXY 10001 (fun _ => 0), cI G hXS 32768 (fun _ => 0)] := hD
  refine lv_aload_n X.1 X.2.1 dX6_init_66 rfl (lv_at hl 0 rfl) ?_
  refine lv_sipush (v := (10001 : Int32)) X.1 X.2.1 dX6_init_67 (by decide) ?_
  refine g_newI X wa_I hP hD hS 10001 (by decide) (by decide) (Nat.le_of_ble_eq_true rfl) (Nat.le_of_ble_eq_true rfl) (Nat.le_of_ble_eq_true rfl) dX6_init_70 (fun hXP H hP hD hS => ?_)
  replace hP : va_P G.1 gCl [(hMO, .inr (6, [.int 0, .int 0, .ref hTM, .int 0, .int 0, .int 0, .int 0, .int 0, .int 0, .long 0, .long 0, .long 0, .long 0, .long 0, .long 0, .int 0, .int 0, .int 0, .ref hDO, .int 0, .int 0, .int 0, .ref hXB, .ref hXC, .ref hXF, .ref hXY, .ref hXS, .null, .null, .null])), cI G hTM 160 (fun _ => 0), cI G hDO 500 (fun _ => 0), cJ G hXB 10001 (fun _ => 0), cI G hXC 10001 (fun _ => 0), cI G hXF 10001 (fun _ => 0), cI G hXY 10001 (fun _ => 0), cI G hXS 32768 (fun _ => 0), cI G hXP 10001 (fun _ => 0)] H := hP
  replace hD : va_D A [(hMO, .inr (6, [.int 0, .int 0, .ref hTM, .int 0, .int 0, .int 0, .int 0, .int 0, .int 0, .long 0, .long 0, .long 0, .long 0, .long 0, .long 0, .int 0, .int 0, .int 0, .ref hDO, .int 0, .int 0, .int 0, .ref hXB, .ref hXC, .ref hXF, .ref hXY, .ref hXS, .null, .null, .null])), cI G hTM 160 (fun _ => 0), cI G hDO 500 (fun _ => 0), cJ G hXB 10001 (fun _ => 0), cI G hXC 10001 (fun _ => 0), cI G hXF 10001 (fun _ => 0), cI G hXY 10001 (fun _ => 0), cI G hXS 32768 (fun _ => 0), cI G hXP 10001 (fun _ => 0)] := hD
  refine g_putF X hin hP hD hS 0 6 27 (v := .ref hXP) rfl rfl inX6 tyX6 tyX6_ok nmX6 (by decide) fl_X6_33 rfl rfl rfl rfl rfl (Nat.le_of_ble_eq_true rfl) dX6_init_72 (fun H locs hP hD hS => ?_)
  replace hP : va_P G.1 gCl [(hMO, .inr (6, [.int 0, .int 0, .ref hTM, .int 0, .int 0, .int 0, .int 0, .int 0, .int 0, .long 0, .long 0, .long 0, .long 0, .long 0, .long 0, .int 0, .int 0, .int 0, .ref hDO, .int 0, .int 0, .int 0, .ref hXB, .ref hXC, .ref hXF, .ref hXY, .ref hXS, .ref hXP, .null, .null])), cI G hTM 160 (fun _ => 0), cI G hDO 500 (fun _ => 0), cJ G hXB 10001 (fun _ => 0), cI G hXC 10001 (fun _ => 0), cI G hXF 10001 (fun _ => 0), cI G hXY 10001 (fun _ => 0), cI G hXS 32768 (fun _ => 0), cI G hXP 10001 (fun _ => 0)] H := hP
  replace hD : va_D A [(hMO, .inr (6, [.int 0, .int 0, .ref hTM, .int 0, .int 0, .int 0, .int 0, .int 0, .int 0, .long 0, .long 0, .long 0, .long 0, .long 0, .long 0, .int 0, .int 0, .int 0, .ref hDO, .int 0, .int 0, .int 0, .ref hXB, .ref hXC, .ref hXF, .ref hXY, .ref hXS, .ref hXP, .null, .null])), cI G hTM 160 (fun _ => 0), cI G hDO 500 (fun _ => 0), cJ G hXB 10001 (fun _ => 0), cI G hXC 10001 (fun _ => 0), cI G hXF 10001 (fun _ => 0), cI G hXY 10001 (fun _ => 0), cI G hXS 32768 (fun _ => 0), cI G hXP 10001 (fun _ => 0)] := hD
  refine lv_aload_n X.1 X.2.1 dX6_init_75 rfl (lv_at hl 0 rfl) ?_
  refine lv_bipush (v := (64 : Int32)) X.1 X.2.1 dX6_init_76 (by decide) ?_
  refine g_newI X wa_I hP hD hS 64 (by decide) (by decide) (Nat.le_of_ble_eq_true rfl) (Nat.le_of_ble_eq_true rfl) (Nat.le_of_ble_eq_true rfl) dX6_init_78 (fun hFA H hP hD hS => ?_)
  replace hP : va_P G.1 gCl [(hMO, .inr (6, [.int 0, .int 0, .ref hTM, .int 0, .int 0, .int 0, .int 0, .int 0, .int 0, .long 0, .long 0, .long 0, .long 0, .long 0, .long 0, .int 0, .int 0, .int 0, .ref hDO, .int 0, .int 0, .int 0, .ref hXB, .ref hXC, .ref hXF, .ref hXY, .ref hXS, .ref hXP, .null, .null])), cI G hTM 160 (fun _ => 0), cI G hDO 500 (fun _ => 0), cJ G hXB 10001 (fun _ => 0), cI G hXC 10001 (fun _ => 0), cI G hXF 10001 (fun _ => 0), cI G hXY 10001 (fun _ => 0), cI G hXS 32768 (fun _ => 0), cI G hXP 10001 (fun _ => 0), cI G hFA 64 (fun _ => 0)] H := hP
  replace hD : va_D A [(hMO, .inr (6, [.int 0, .int 0, .ref hTM, .int 0, .int 0, .int 0, .int 0, .int 0, .int 0, .long 0, .long 0, .long 0, .long 0, .long 0, .long 0, .int 0, .int 0, .int 0, .ref hDO, .int 0, .int 0, .int 0, .ref hXB, .ref hXC, .ref hXF, .ref hXY, .ref hXS, .ref hXP, .null, .null])), cI G hTM 160 (fun _ => 0), cI G hDO 500 (fun _ => 0), cJ G hXB 10001 (fun _ => 0), cI G hXC 10001 (fun _ => 0), cI G hXF 10001 (fun _ => 0), cI G hXY 10001 (fun _ => 0), cI G hXS 32768 (fun _ => 0), cI G hXP 10001 (fun _ => 0), cI G hFA 64 (fun _ => 0)] := hD
  refine g_putF X hin hP hD hS 0 6 28 (v := .ref hFA) rfl rfl inX6 tyX6 tyX6_ok nmX6 (by decide) fl_X6_36 rfl rfl rfl rfl rfl (Nat.le_of_ble_eq_true rfl) dX6_init_80 (fun H locs hP hD hS => ?_)
  replace hP : va_P G.1 gCl [(hMO, .inr (6, [.int 0, .int 0, .ref hTM, .int 0, .int 0, .int 0, .int 0, .int 0, .int 0, .long 0, .long 0, .long 0, .long 0, .long 0, .long 0, .int 0, .int 0, .int 0, .ref hDO, .int 0, .int 0, .int 0, .ref hXB, .ref hXC, .ref hXF, .ref hXY, .ref hXS, .ref hXP, .ref hFA, .null])), cI G hTM 160 (fun _ => 0), cI G hDO 500 (fun _ => 0), cJ G hXB 10001 (fun _ => 0), cI G hXC 10001 (fun _ => 0), cI G hXF 10001 (fun _ => 0), cI G hXY 10001 (fun _ => 0), cI G hXS 32768 (fun _ => 0), cI G hXP 10001 (fun _ => 0), cI G hFA 64 (fun _ => 0)] H := hP
  replace hD : va_D A [(hMO, .inr (6, [.int 0, .int 0, .ref hTM, .int 0, .int 0, .int 0, .int 0, .int 0, .int 0, .long 0, .long 0, .long 0, .long 0, .long 0, .long 0, .int 0, .int 0, .int 0, .ref hDO, .int 0, .int 0, .int 0, .ref hXB, .ref hXC, .ref hXF, .ref hXY, .ref hXS, .ref hXP, .ref hFA, .null])), cI G hTM 160 (fun _ => 0), cI G hDO 500 (fun _ => 0), cJ G hXB 10001 (fun _ => 0), cI G hXC 10001 (fun _ => 0), cI G hXF 10001 (fun _ => 0), cI G hXY 10001 (fun _ => 0), cI G hXS 32768 (fun _ => 0), cI G hXP 10001 (fun _ => 0), cI G hFA 64 (fun _ => 0)] := hD
  refine lv_aload_n X.1 X.2.1 dX6_init_83 rfl (lv_at hl 0 rfl) ?_
  refine lv_sipush (v := (4096 : Int32)) X.1 X.2.1 dX6_init_84 (by decide) ?_
  refine g_newI X wa_I hP hD hS 4096 (by decide) (by decide) (Nat.le_of_ble_eq_true rfl) (Nat.le_of_ble_eq_true rfl) (Nat.le_of_ble_eq_true rfl) dX6_init_87 (fun hLE H hP hD hS => ?_)
  replace hP : va_P G.1 gCl [(hMO, .inr (6, [.int 0, .int 0, .ref hTM, .int 0, .int 0, .int 0, .int 0, .int 0, .int 0, .long 0, .long 0, .long 0, .long 0, .long 0, .long 0, .int 0, .int 0, .int 0, .ref hDO, .int 0, .int 0, .int 0, .ref hXB, .ref hXC, .ref hXF, .ref hXY, .ref hXS, .ref hXP, .ref hFA, .null])), cI G hTM 160 (fun _ => 0), cI G hDO 500 (fun _ => 0), cJ G hXB 10001 (fun _ => 0), cI G hXC 10001 (fun _ => 0), cI G hXF 10001 (fun _ => 0), cI G hXY 10001 (fun _ => 0), cI G hXS 32768 (fun _ => 0), cI G hXP 10001 (fun _ => 0), cI G hFA 64 (fun _ => 0), cI G hLE 4096 (fun _ => 0)] H := hP
  replace hD : va_D A [(hMO, .inr (6, [.int 0, .int 0, .ref hTM, .int 0, .int 0, .int 0, .int 0, .int 0, .int 0, .long 0, .long 0, .long 0, .long 0, .long 0, .long 0, .int 0, .int 0, .int 0, .ref hDO, .int 0, .int 0, .int 0, .ref hXB, .ref hXC, .ref hXF, .ref hXY, .ref hXS, .ref hXP, .ref hFA, .null])), cI G hTM 160 (fun _ => 0), cI G hDO 500 (fun _ => 0), cJ G hXB 10001 (fun _ => 0), cI G hXC 10001 (fun _ => 0), cI G hXF 10001 (fun _ => 0), cI G hXY 10001 (fun _ => 0), cI G hXS 32768 (fun _ => 0), cI G hXP 10001 (fun _ => 0), cI G hFA 64 (fun _ => 0), cI G hLE 4096 (fun _ => 0)] := hD
  refine g_putF X hin hP hD hS 0 6 29 (v := .ref hLE) rfl rfl inX6 tyX6 tyX6_ok nmX6 (by decide) fl_X6_39 rfl rfl rfl rfl rfl (Nat.le_of_ble_eq_true rfl) dX6_init_89 (fun H locs hP hD hS => ?_)
  replace hP : va_P G.1 gCl [(hMO, .inr (6, [.int 0, .int 0, .ref hTM, .int 0, .int 0, .int 0, .int 0, .int 0, .int 0, .long 0, .long 0, .long 0, .long 0, .long 0, .long 0, .int 0, .int 0, .int 0, .ref hDO, .int 0, .int 0, .int 0, .ref hXB, .ref hXC, .ref hXF, .ref hXY, .ref hXS, .ref hXP, .ref hFA, .ref hLE])), cI G hTM 160 (fun _ => 0), cI G hDO 500 (fun _ => 0), cJ G hXB 10001 (fun _ => 0), cI G hXC 10001 (fun _ => 0), cI G hXF 10001 (fun _ => 0), cI G hXY 10001 (fun _ => 0), cI G hXS 32768 (fun _ => 0), cI G hXP 10001 (fun _ => 0), cI G hFA 64 (fun _ => 0), cI G hLE 4096 (fun _ => 0)] H := hP
  replace hD : va_D A [(hMO, .inr (6, [.int 0, .int 0, .ref hTM, .int 0, .int 0, .int 0, .int 0, .int 0, .int 0, .long 0, .long 0, .long 0, .long 0, .long 0, .long 0, .int 0, .int 0, .int 0, .ref hDO, .int 0, .int 0, .int 0, .ref hXB, .ref hXC, .ref hXF, .ref hXY, .ref hXS, .ref hXP, .ref hFA, .ref hLE])), cI G hTM 160 (fun _ => 0), cI G hDO 500 (fun _ => 0), cJ G hXB 10001 (fun _ => 0), cI G hXC 10001 (fun _ => 0), cI G hXF 10001 (fun _ => 0), cI G hXY 10001 (fun _ => 0), cI G hXS 32768 (fun _ => 0), cI G hXP 10001 (fun _ => 0), cI G hFA 64 (fun _ => 0), cI G hLE 4096 (fun _ => 0)] := hD
  refine W.widen (k := 10) (n := 87593) (Nat.le_of_ble_eq_true rfl) (Nat.le_of_ble_eq_true rfl) ?_
  exact g_vret X (hTM, hDO, hXB, hXC, hXF, hXY, hXS, hXP, hFA, hLE) trivial hP hD hS dX6_init_92
