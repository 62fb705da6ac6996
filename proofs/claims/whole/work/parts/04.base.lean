def gNest : List (String × Nat × MethodName × String) := [(RX5, 15, yX3_init, "PushBoards"), (RX5, 22, yX0_init, "PushBoards"), (RX5, 29, yX1_init, "PushBoards"), (RX5, 36, yX2_init, "PushBoards"), (RX5, 43, yX4_init, "PushBoards"), (RX3, 37, yX5_cellAt, "PushBoards"), (RX0, 86, yX5_cellAt, "PushBoards"), (RX0, 72, yX5_against, "PushBoards"), (RX0, 58, yX5_shifted, "PushBoards"), (RX0, 68, yX5_spotOf, "PushBoards"), (RX4, 61, yX5_spotOf, "PushBoards"), (RX4, 86, yX5_has, "PushBoards"), (RX4, 90, yX5_shifted, "PushBoards"), (RX4, 94, yX5_against, "PushBoards")]
def gStr : List (String × Nat × String) := [(RX1, 36, "rdluRDLU"), (RX5, 100, "there is no board"), (RX5, 107, "there is no such way"), (RX5, 229, "there is no such cell")]
def gDecl : List MethodName := [⟨"java/lang/RuntimeException", "<init>", "()V"⟩, ⟨"java/lang/RuntimeException", "<init>", "(Ljava/lang/String;)V"⟩, ⟨"java/lang/Exception", "<init>", "()V"⟩, ⟨"java/lang/Exception", "<init>", "(Ljava/lang/String;)V"⟩, ⟨"java/lang/Throwable", "<init>", "()V"⟩, ⟨"java/lang/Throwable", "<init>", "(Ljava/lang/String;)V"⟩, ⟨"java/lang/IndexOutOfBoundsException", "<init>", "()V"⟩, ⟨"java/lang/IndexOutOfBoundsException", "<init>", "(Ljava/lang/String;)V"⟩]
def gCast : List (String × String) := [("[J", "java/lang/Cloneable"), ("[I", "java/lang/Cloneable"), ("java/lang/IllegalStateException", "java/lang/IllegalStateException"), ("java/lang/ArrayIndexOutOfBoundsException", "java/lang/ArrayIndexOutOfBoundsException")]
def gLet : List Int32 := [114, 100, 108, 117, 82, 68, 76, 85]
/-! the world of this claim: classes, words, the judgement's constants in one bundle -/
abbrev gCl : List vw_C := [(RX0, TX0, 10), (RX1, TX1, 5), (RX2, TX2, 7), (RX3, TX3, 8), (RX4, TX4, 9), (RX5, TX5, 7), (RX6, TX6, 30)]
def wAll : List Cond := lw_tbl.filter goodWord
theorem wAll_good {w : Cond} (h : w ∈ wAll) : (w.onTables && w.keeps) = true ∨ ∃ ty, w = .arrayClass ty := good_of_word (List.mem_filter.mp h).2
theorem inT {w : Cond} (i : Nat) (h : tables_1[i]? = some w) (hg : goodWord w = true) : w ∈ wAll := List.mem_filter.mpr ⟨List.mem_append_right _ (List.mem_of_getElem? h), hg⟩
theorem inL {w : Cond} (h : w ∈ k2_sels lw_privs) (hg : goodWord w = true) : w ∈ wAll := List.mem_filter.mpr ⟨List.mem_append_left _ h, hg⟩
theorem inC1 {w : Cond} (i : Nat) (hi : tables_1_1[i]? = some w) (hg : goodWord w = true) : w ∈ wAll := by
  have h : w ∈ tables_1_1 := List.mem_of_getElem? hi
  exact List.mem_filter.mpr ⟨List.mem_append_right _ (List.mem_append_left _ h), hg⟩
theorem inC2 {w : Cond} (i : Nat) (hi : tables_1_2[i]? = some w) (hg : goodWord w = true) : w ∈ wAll := by
  have h : w ∈ tables_1_2 := List.mem_of_getElem? hi
  exact List.mem_filter.mpr ⟨List.mem_append_right _ (List.mem_append_right _ (List.mem_append_left _ h)), hg⟩
theorem inC3 {w : Cond} (i : Nat) (hi : tables_1_3[i]? = some w) (hg : goodWord w = true) : w ∈ wAll := by
  have h : w ∈ tables_1_3 := List.mem_of_getElem? hi
  exact List.mem_filter.mpr ⟨List.mem_append_right _ (List.mem_append_right _ (List.mem_append_right _ (List.mem_append_left _ h))), hg⟩
theorem inC4 {w : Cond} (i : Nat) (hi : tables_1_4[i]? = some w) (hg : goodWord w = true) : w ∈ wAll := by
  have h : w ∈ tables_1_4 := List.mem_of_getElem? hi
  exact List.mem_filter.mpr ⟨List.mem_append_right _ (List.mem_append_right _ (List.mem_append_right _ (List.mem_append_right _ (List.mem_append_left _ h)))), hg⟩
theorem inC5 {w : Cond} (i : Nat) (hi : tables_1_5[i]? = some w) (hg : goodWord w = true) : w ∈ wAll := by
  have h : w ∈ tables_1_5 := List.mem_of_getElem? hi
  exact List.mem_filter.mpr ⟨List.mem_append_right _ (List.mem_append_right _ (List.mem_append_right _ (List.mem_append_right _ (List.mem_append_right _ h)))), hg⟩
/-- D, the three array classes, the first free address, where the texts lie -/
abbrev gEnv : Type := va_G × (ClassId × ClassId × ClassId) × Nat × (Nat → Nat) × (Nat → Nat)
abbrev gTy (G : gEnv) : List (ClassId × FieldType) := [(G.2.1.1, .int), (G.2.1.2.1, .long), (G.2.1.2.2, .boolean)]
def gNew (G : gEnv) : Nat → Prop := fun q => G.2.2.1 ≤ q
def gN (U : State) : Prop := ∀ q ∈ gNest, va_Nw (.methodLinkNest q.1 q.2.1 q.2.2.1 q.2.2.2) U
def gDW : List Cond := gDecl.map Cond.declares ++ gCast.map (fun q => Cond.castable q.1 q.2)
/-- words that keep only by their own laws; what isn't castable -/
def gX0 (U : State) : Prop := (∀ y ∈ gDecl, va_Nw (.declares y) U) ∧ (∀ q ∈ gCast, va_Nw (.castable q.1 q.2) U) ∧ va_Nc "java/lang/IllegalStateException" "java/lang/ArrayIndexOutOfBoundsException" U
theorem gX0.warm {s U : State} (hW : s.WarmedH U.vm) (h : gX0 s) : gX0 U :=
  ⟨fun y hy => va_Nw.warmD hW (h.1 y hy), fun q hq => va_tabs rfl (rfl : (s.setVm U.vm).vm = U.vm) (by rw [Cond.castable_setVm hW.alike]; exact h.2.1 q hq), va_Nc.moved hW.alike h.2.2⟩
theorem gX0.same {U V : State} (hv : V.vm = U.vm) (h : gX0 U) : gX0 V :=
  ⟨fun y hy => va_Nw.same rfl hv.symm (h.1 y hy), fun q hq => va_Nw.same rfl hv.symm (h.2.1 q hq), va_Nc.moved (by rw [hv]; exact Vm.Alike.refl _) h.2.2⟩
theorem gX0.dw {U : State} (h : gX0 U) {A : Array Value} : ∀ w ∈ gDW, w.before A U = true := by
  intro w hw
  rcases List.mem_append.mp hw with h1 | h1
  · obtain ⟨y, hy, rfl⟩ := List.mem_map.mp h1
    exact va_Nw.use rfl (h.1 y hy)
  · obtain ⟨q, hq, rfl⟩ := List.mem_map.mp h1
    exact va_Nw.use rfl (h.2.1 q hq)
def gS (G : gEnv) (U : State) : Prop := ∀ (k : Nat) (q : String × Nat × String), gStr[k]? = some q → vk_R q.1 q.2.1 q.2.2 (G.2.2.2.1 k) U
/-- what lies in the old heap -/
def gO (G : gEnv) (U : State) (H : Heap) : Prop := G.2.2.1 ≤ H.size ∧ va_Z "java/lang/String" "COMPACT_STRINGS" "Z" (.int 1) (gNew G) U H ∧ vk_S 1 [8] [gLet] G.2.2.2.1 G.2.2.2.2 (gNew G) U H ∧ vx_Zq Bundle.tN "UNASSIGNED_STACK" Bundle.steD (gNew G) U H ∧ vx_Zq Bundle.tN "SUPPRESSED_SENTINEL" Bundle.listD (gNew G) U H ∧ va_Zq "jdk/internal/util/Preconditions" "SIOOBE_FORMATTER" "Ljava/util/function/BiFunction;" (gNew G) U H
def gK (G : gEnv) (U : State) : Prop := va_K G.1 gCl (gTy G) U ∧ gN U ∧ gS G U ∧ gO G U U.heap ∧ gX0 U
theorem gO.kept {G : gEnv} {U : State} {H H1 : Heap} (h : gO G U H) (hz : H.size ≤ H1.size) (hq : ∀ a : Nat, a < H.size → ¬ gNew G a → H1[a]? = H[a]?) : gO G U H1 :=
  ⟨Nat.le_trans h.1 hz, va_Z.kept h.2.1 hq, vk_S.kept h.2.2.1 hq, vx_Zq.kept h.2.2.2.1 hq, vx_Zq.kept h.2.2.2.2.1 hq, va_Zq.kept h.2.2.2.2.2 hq⟩
theorem gO.moved {G : gEnv} {u U : State} {H : Heap} (hvm : u.vm.Alike U.vm) (h : gO G u H) : gO G U H :=
  ⟨h.1, va_Z.moved hvm h.2.1, vk_S.moved hvm h.2.2.1, vx_Zq.moved hvm h.2.2.2.1, vx_Zq.moved hvm h.2.2.2.2.1, va_Zq.moved hvm h.2.2.2.2.2⟩
theorem gK.warm {G : gEnv} {s U : State} (hW : s.WarmedH U.vm) (h : gK G s) (hz : s.heap.size ≤ U.heap.size) (hq : ∀ a : Nat, a < s.heap.size → ¬ gNew G a → U.heap[a]? = s.heap[a]?) : gK G U :=
  ⟨va_K.moved hW.alike h.1, fun q hq => va_Nw.warmM hW (h.2.1 q hq), fun k q hk => vk_R.warm hW (h.2.2.1 k q hk), (gO.moved hW.alike h.2.2.2.1).kept hz hq, h.2.2.2.2.warm hW⟩
theorem gK.same {G : gEnv} {U V : State} (hv : V.vm = U.vm) (hh : V.heap = U.heap) (h : gK G U) : gK G V :=
  ⟨va_K.moved (by rw [hv]; exact Vm.Alike.refl _) h.1, fun q hq => va_Nw.same rfl hv.symm (h.2.1 q hq), fun k q hk => vk_R.same hv (h.2.2.1 k q hk), by rw [hh]; exact gO.moved (by rw [hv]; exact Vm.Alike.refl _) h.2.2.2.1, h.2.2.2.2.same hv⟩
/-- a method's start -/
def gPc (G : gEnv) (av : List Value) (ws : va_W) (sz : Nat) : Array Value → State → Prop := va_Pc av (fun U => U.heap.size = sz ∧ va_P G.1 gCl ws U.heap ∧ gK G U ∧ va_D (gNew G) ws)
theorem gPc.blind {G : gEnv} {av : List Value} {ws : va_W} {sz : Nat} : FrameBlind (gPc G av ws sz) := fun a U g mk h => by
  obtain ⟨q0, q1, qP, qK, qD⟩ := h
  exact ⟨q0, q1, qP, gK.same (U := U) (V := U.calling g mk a) rfl rfl qK, qD⟩
def gQi {S : Type} (G : gEnv) (post : Int32 → S → Prop) (w1 : S → va_W) (A : Nat → Prop) : Array Value → State → Outcome → State → Prop := va_Qi post (fun u t => va_P G.1 gCl (w1 u) t.heap ∧ va_D A (w1 u)) A
def gQl {S : Type} (G : gEnv) (post : Int64 → S → Prop) (w1 : S → va_W) (A : Nat → Prop) : Array Value → State → Outcome → State → Prop := va_Ql post (fun u t => va_P G.1 gCl (w1 u) t.heap ∧ va_D A (w1 u)) A
def gQv {S : Type} (G : gEnv) (post : S → Prop) (w1 : S → va_W) (A : Nat → Prop) : Array Value → State → Outcome → State → Prop := va_Qv post (fun u t => va_P G.1 gCl (w1 u) t.heap ∧ va_D A (w1 u)) A
/-- what stays while a method's body is walked -/
def gX (p : Program) (m : MethodId) (meth : Method) (c : Code) (cc : ByteArray) (nL : Nat) (own : String) (ret : Option FieldType) (s : State) (args : Array Value) (G : gEnv) (A : Nat → Prop) : Prop :=
  p.tables.exec = Jvm.exec ∧ c.code = cc ∧ c.maxLocals = nL ∧ s.vm.findClass own = some m.cls ∧ (∀ w ∈ wAll, w.before args s = true) ∧ meth.sig.returnType = ret ∧ gK G s ∧ (∀ q, s.heap.size ≤ q → A q) ∧ (∀ q, A q → gNew G q) ∧ meth.locks = false
theorem gX.ofB {p : Program} {l : Launch} {y : MethodName} {cc : ByteArray} {nL : Nat} {ret : Option FieldType} {rm : Room} {e : Env} {s : State} {m : MethodId} {args : Array Value} {below : List Frame} {meth : Method} {c : Code} {s₁ : State} {G : gEnv} {ws : va_W}
    (B : BodyLoose p l y (headSpec (Cond.code y cc nL ret :: wAll) rm) cc nL ret e s m args below meth c s₁) (hml : c.maxLocals = nL) (hK : gK G s) (hD : va_D (gNew G) ws) : gX p m meth c cc nL y.cls ret s args G (va_A ws s.heap.size) := by
  refine ⟨B.exec, B.bytes, hml, findClass_of_methodNamed B.named, fun w hw => atoms_spec (ws := Cond.code y cc nL ret :: wAll) B.pre w (List.mem_cons_of_mem _ hw), B.returns, hK, fun q h => Or.inr h, fun q h => ?_, B.notSynchronized⟩
  rcases h with ⟨k, e, h⟩ | h
  · exact hD.2 k (q, e) h
  · exact Nat.le_trans hK.2.2.2.1.1 h
theorem mapFM {α β : Type} {f : α → Option β} : ∀ {l : List α} {w : List β}, l.map f = w.map some → l.filterMap f = w := by
  intro l
  induction l with
  | nil => intro w h; cases w with
    | nil => rfl
    | cons => cases h
  | cons a l ih => intro w h; cases w with
    | nil => cases h
    | cons b w =>
      have h1 : f a = some b := (List.cons.inj h).1
      rw [List.filterMap_cons, h1]
      exact congrArg _ (ih (List.cons.inj h).2)
section GW
variable {p : Program} {l : Launch} {e : Env} {R : Room} {s : State} {m : MethodId} {args : Array Value} {below : List Frame} {meth : Method} {c : Code} {H : Heap} {locs : List Loc} {cells slots : Nat} {Q : State → Prop}
variable {cc : ByteArray} {nL : Nat} {own : String} {ret : Option FieldType} {G : gEnv} {A : Nat → Prop} {pc : Nat} {ls : Array Slot} {rest : List Value} {ws : va_W} {a : Nat}
theorem gX.fix (X : gX p m meth c cc nL own ret s args G A) : CallFix p m c cc nL s args wAll own := ⟨X.1, X.2.1, X.2.2.1, X.2.2.2.1, X.2.2.2.2.1⟩
theorem gX.k (X : gX p m meth c cc nL own ret s args G A) : gK G s := X.2.2.2.2.2.2.1
theorem gX.hA (X : gX p m meth c cc nL own ret s args G A) : ∀ q, s.heap.size ≤ q → A q := X.2.2.2.2.2.2.2.1
theorem gX.new (X : gX p m meth c cc nL own ret s args G A) : ∀ q, A q → gNew G q := X.2.2.2.2.2.2.2.2.1
theorem gX.rty (X : gX p m meth c cc nL own ret s args G A) : meth.sig.returnType = ret := X.2.2.2.2.2.1
theorem gX.lk (X : gX p m meth c cc nL own ret s args G A) : meth.locks = false := X.2.2.2.2.2.2.2.2.2
/-- the constants at a callee's start -/
theorem gX.at (X : gX p m meth c cc nL own ret s args G A) (hS : va_S A s.heap H locs) {U : State} (hU : U.heap = H) (hW : s.WarmedH U.vm) : gK G U :=
  gK.warm hW X.k (by rw [hU]; exact hS.1) (fun q h1 h2 => by rw [hU]; exact hS.2.1 q h1 (fun h => h2 (X.new q h)))
theorem g_get (X : gX p m meth c cc nL own ret s args G A) (hP : va_P G.1 gCl ws H) (q0 ci k : Nat) {C : String} {T : u_T} {N index : Nat} {fs : List Value} {v : Value} (he : ws[q0]? = some (a, .inr (ci, fs))) (hc : gCl[ci]? = some (C, T, N)) (hin : ∀ w ∈ u_ws C T N, w ∈ wAll) (hk : k < N) (hl : Cond.fieldLink own index (T k).1 (T k).2.1 (T k).2.2.1 ∈ wAll) (hv : fs[k]? = some v) (hdg : decode cc pc = .ok (.getfield index, 3))
    (kk : W p l e R s m args below meth c H locs cells slots Q (F0 m (pc + 3) ls (v :: rest))) : W p l e R s m args below meth c H locs cells slots Q (F0 m pc ls (.ref a :: rest)) :=
  va_get (D := G.1) X.1 X.2.1 X.2.2.2.2.1 hin X.2.2.2.1 X.k.1 hP q0 he hc k hk (X.2.2.2.2.1 _ hl) (fun _ h9 => h9) hv hdg kk
theorem g_put (X : gX p m meth c cc nL own ret s args G A) (hP : va_P G.1 gCl ws H) (hD : va_D A ws) (hS : va_S A s.heap H locs) (q0 ci k : Nat) {C : String} {T : u_T} {N index : Nat} {fs : List Value} {v : Value} {ty : FieldType} (he : ws[q0]? = some (a, .inr (ci, fs))) (hc : gCl[ci]? = some (C, T, N)) (hin : ∀ w ∈ u_ws C T N, w ∈ wAll) (ty0 : Nat → FieldType) (hty : ∀ k, k < N → parseFieldDescriptor (T k).2.2.1 = some (ty0 k)) (hnm : ∀ a, a < N → ∀ b, b < N → a ≠ b → (T a).2.1 ≠ (T b).2.1) (hk : k < N) (hl : Cond.fieldLink own index (T k).1 (T k).2.1 (T k).2.2.1 ∈ wAll) (hfin : (T k).2.2.2 = false) (hd : ty0 k = ty) (hn : narrow ty v = v) (hfit : fits ty v = true) (hlen : k < fs.length) (hdg : decode cc pc = .ok (.putfield index, 3))
    (kk : ∀ (H1 : Heap) (locs1 : List Loc), va_P G.1 gCl (ws.set q0 (a, .inr (ci, fs.set k v))) H1 → va_D A (ws.set q0 (a, .inr (ci, fs.set k v))) → va_S A s.heap H1 locs1 → W p l e R s m args below meth c H1 locs1 cells slots Q (F0 m (pc + 3) ls rest)) : W p l e R s m args below meth c H locs cells slots Q (F0 m pc ls (v :: .ref a :: rest)) :=
  va_put (D := G.1) X.1 X.2.1 X.2.2.2.2.1 hin ty0 hty hnm X.2.2.2.1 X.k.1 hP hD hS q0 he hc k hk (X.2.2.2.2.1 _ hl) (fun _ h9 => h9) hfin (by rw [hty k hk, hd]) hn hfit hlen hdg kk
theorem g_lcmp_eq (X : gX p m meth c cc nL own ret s args G A) {x y : Int64} {off : Int} {tgt : Nat} (hd1 : decode cc pc = .ok (.lcmp, 1)) (hdg : decode cc (pc + 1) = .ok (.ifCond .eq off, 3)) (ht : ((pc + 1 : Nat) : Int) + off = (tgt : Int))
    (kt : x = y → W p l e R s m args below meth c H locs cells slots Q (F0 m tgt ls rest)) (kf : ¬ x = y → W p l e R s m args below meth c H locs cells slots Q (F0 m (pc + 1 + 3) ls rest)) : W p l e R s m args below meth c H locs cells slots Q (F0 m pc ls (.long y :: .long x :: rest)) :=
  W.lcmp X.1 X.2.1 hd1 (lv_if_eq X.1 X.2.1 hdg ht (fun h => kt ((lg_cmp_eq x y).mp h)) (fun h => kf (fun q => h ((lg_cmp_eq x y).mpr q))))
theorem g_lcmp_ne (X : gX p m meth c cc nL own ret s args G A) {x y : Int64} {off : Int} {tgt : Nat} (hd1 : decode cc pc = .ok (.lcmp, 1)) (hdg : decode cc (pc + 1) = .ok (.ifCond .ne off, 3)) (ht : ((pc + 1 : Nat) : Int) + off = (tgt : Int))
    (kt : ¬ x = y → W p l e R s m args below meth c H locs cells slots Q (F0 m tgt ls rest)) (kf : x = y → W p l e R s m args below meth c H locs cells slots Q (F0 m (pc + 1 + 3) ls rest)) : W p l e R s m args below meth c H locs cells slots Q (F0 m pc ls (.long y :: .long x :: rest)) :=
  W.lcmp X.1 X.2.1 hd1 (lv_if_ne X.1 X.2.1 hdg ht (fun h => kt (fun q => h ((lg_cmp_eq x y).mpr q))) (fun h => kf ((lg_cmp_eq x y).mp h)))
theorem g_iret {S : Type} {post : Int32 → S → Prop} {w1 : S → va_W} {v : Int32} (X : gX p m meth c cc nL own (some .int) s args G A) (u : S) (hp : post v u) (hP : va_P G.1 gCl (w1 u) H) (hD : va_D A (w1 u)) (hS : va_S A s.heap H locs) (hdg : decode cc pc = .ok (.ireturn, 1)) : W p l e R s m args below meth c H locs cells slots (MQ below (gQi G post w1 A) args s cells slots A) (F0 m pc ls [.int v]) :=
  W.iret (v := v) X.1 X.2.1 X.rty (fun t ht hW => ⟨⟨v, u, rfl, hp, by rw [ht]; exact hP, hD⟩, hS.F ht⟩) hS.2.2 hdg X.lk
theorem g_zret {S : Type} {post : Int32 → S → Prop} {w1 : S → va_W} {v : Int32} (X : gX p m meth c cc nL own (some .boolean) s args G A) (hv : v = 0 ∨ v = 1) (u : S) (hp : post v u) (hP : va_P G.1 gCl (w1 u) H) (hD : va_D A (w1 u)) (hS : va_S A s.heap H locs) (hdg : decode cc pc = .ok (.ireturn, 1)) : W p l e R s m args below meth c H locs cells slots (MQ below (gQi G post w1 A) args s cells slots A) (F0 m pc ls [.int v]) :=
  W.zret (v := v) X.1 X.2.1 X.rty (by rcases hv with rfl | rfl <;> rfl) (fun t ht hW => ⟨⟨v, u, rfl, hp, by rw [ht]; exact hP, hD⟩, hS.F ht⟩) hS.2.2 hdg X.lk
theorem g_nret {S : Type} {post : Int32 → S → Prop} {w1 : S → va_W} {v : Int32} {ty : FieldType} (X : gX p m meth c cc nL own (some ty) s args G A) (hn : narrow ty (.int v) = .int v) (u : S) (hp : post v u) (hP : va_P G.1 gCl (w1 u) H) (hD : va_D A (w1 u)) (hS : va_S A s.heap H locs) (hdg : decode cc pc = .ok (.ireturn, 1)) : W p l e R s m args below meth c H locs cells slots (MQ below (gQi G post w1 A) args s cells slots A) (F0 m pc ls [.int v]) :=
  W.zret (v := v) X.1 X.2.1 X.rty hn (fun t ht hW => ⟨⟨v, u, rfl, hp, by rw [ht]; exact hP, hD⟩, hS.F ht⟩) hS.2.2 hdg X.lk
theorem g_lret {S : Type} {post : Int64 → S → Prop} {w1 : S → va_W} {v : Int64} (X : gX p m meth c cc nL own (some .long) s args G A) (u : S) (hp : post v u) (hP : va_P G.1 gCl (w1 u) H) (hD : va_D A (w1 u)) (hS : va_S A s.heap H locs) (hdg : decode cc pc = .ok (.lreturn, 1)) : W p l e R s m args below meth c H locs cells slots (MQ below (gQl G post w1 A) args s cells slots A) (F0 m pc ls [.long v]) :=
  W.lret (v := v) X.1 X.2.1 X.rty (fun t ht hW => ⟨⟨v, u, rfl, hp, by rw [ht]; exact hP, hD⟩, hS.F ht⟩) hS.2.2 hdg X.lk
theorem g_vret {S : Type} {post : S → Prop} {w1 : S → va_W} (X : gX p m meth c cc nL own none s args G A) (u : S) (hp : post u) (hP : va_P G.1 gCl (w1 u) H) (hD : va_D A (w1 u)) (hS : va_S A s.heap H locs) (hdg : decode cc pc = .ok (.return_, 1)) : W p l e R s m args below meth c H locs cells slots (MQ below (gQv G post w1 A) args s cells slots A) (F0 m pc ls []) :=
  W.vret X.1 X.2.1 X.rty (fun t ht hW => ⟨⟨u, rfl, hp, by rw [ht]; exact hP, hD⟩, hS.F ht⟩) hS.2.2 hdg X.lk
/-- what a call by a name of a method needs of the tables -/
def gLV (own : String) (index : Nat) (C : String) (y : MethodName) (bytes : ByteArray) (maxL : Nat) (ret : Option FieldType) (n : Nat) : Prop :=
  (Cond.methodLink own index y ∈ wAll ∧ Cond.instanceMethod y ∈ wAll ∧ Cond.selects C y y ∈ wAll) ∧ Cond.initialized y.cls ∈ wAll ∧ Cond.code y bytes maxL ret ∈ wAll ∧ y.cls ≠ "java/lang/invoke/MethodHandle" ∧ y.cls ≠ "java/lang/invoke/VarHandle" ∧ (parseMethodDescriptor y.desc).map (fun d => d.parameters.length) = some n
def gLS (own : String) (index : Nat) (y : MethodName) (bytes : ByteArray) (maxL : Nat) (ret : Option FieldType) (n : Nat) : Prop :=
  (Cond.methodLink own index y ∈ wAll ∧ Cond.static y ∈ wAll) ∧ Cond.initialized y.cls ∈ wAll ∧ Cond.code y bytes maxL ret ∈ wAll ∧ y.cls ≠ "java/lang/invoke/MethodHandle" ∧ y.cls ≠ "java/lang/invoke/VarHandle" ∧ (parseMethodDescriptor y.desc).map (fun d => d.parameters.length) = some n
def gLN (own : String) (index : Nat) (y : MethodName) (host : String) (bytes : ByteArray) (maxL : Nat) (ret : Option FieldType) (n : Nat) : Prop :=
  ((own, index, y, host) ∈ gNest ∧ Cond.static y ∈ wAll) ∧ Cond.initialized y.cls ∈ wAll ∧ Cond.code y bytes maxL ret ∈ wAll ∧ y.cls ≠ "java/lang/invoke/MethodHandle" ∧ y.cls ≠ "java/lang/invoke/VarHandle" ∧ (parseMethodDescriptor y.desc).map (fun d => d.parameters.length) = some n
def gLI (own : String) (index : Nat) (y : MethodName) (host : String) (bytes : ByteArray) (maxL : Nat) (ret : Option FieldType) (n : Nat) : Prop :=
  ((own, index, y, host) ∈ gNest ∧ Cond.instanceMethod y ∈ wAll) ∧ Cond.initialized y.cls ∈ wAll ∧ Cond.code y bytes maxL ret ∈ wAll ∧ y.cls ≠ "java/lang/invoke/MethodHandle" ∧ y.cls ≠ "java/lang/invoke/VarHandle" ∧ (parseMethodDescriptor y.desc).map (fun d => d.parameters.length) = some n
def gLC (own : String) (index : Nat) (y : MethodName) (bytes : ByteArray) (maxL : Nat) (ret : Option FieldType) (n : Nat) : Prop :=
  (Cond.methodLink own index y ∈ wAll ∧ Cond.instanceMethod y ∈ wAll) ∧ Cond.initialized y.cls ∈ wAll ∧ Cond.code y bytes maxL ret ∈ wAll ∧ y.cls ≠ "java/lang/invoke/MethodHandle" ∧ y.cls ≠ "java/lang/invoke/VarHandle" ∧ (parseMethodDescriptor y.desc).map (fun d => d.parameters.length) = some n
theorem g_pay (X : gX p m meth c cc nL own ret s args G A) {y : MethodName} {bytes : ByteArray} {maxL : Nat} {r : Option FieldType} (hc : Cond.code y bytes maxL r ∈ wAll) : ∀ w ∈ (Cond.code y bytes maxL r :: wAll), ∀ (a' : Array Value) (U : State), s.WarmedH U.vm → w.before a' U = true :=
  fun w hw a' U hW => by
    have h1 : w ∈ wAll := by
      rcases List.mem_cons.mp hw with h | h
      · rw [h]; exact hc
      · exact h
    exact word_at hW (wAll_good h1) (X.2.2.2.2.1 w h1)
theorem g_sig {y : MethodName} {n : Nat} (h2 : (parseMethodDescriptor y.desc).map (fun d => d.parameters.length) = some n) : ∀ sig, parseMethodDescriptor y.desc = some sig → n = sig.parameters.length := fun sig h => by
  rw [h] at h2
  exact (Option.some.inj h2).symm
variable {y : MethodName} {bytes : ByteArray} {maxL mc ms n index : Nat} {rt : Option FieldType} {rm : Room} {Qc : Array Value → State → Outcome → State → Prop} {free : Addr → Prop} {C host : String} {b : Addr} {As : List Value} {wc wr : va_W} {st0 : List Value}
theorem g_pre (X : gX p m meth c cc nL own ret s args G A) (hP : va_P G.1 gCl ws H) (hD : va_D A ws) (hS : va_S A s.heap H locs) (isC : List Nat) (hC : isC.map (fun i => ws[i]?) = wc.map some) (hn : va_nd isC = true) {av : List Value} : ∀ U : State, U.heap = H → s.WarmedH U.vm → gPc G av wc H.size av.toArray U :=
  fun U hU hW => ⟨rfl, by rw [hU], by rw [hU]; exact hP.sub isC (mapFM hC), X.at hS hU hW, (hD.sub isC hn hC).weaken (fun _ q _ h => X.new q.1 h)⟩
theorem g_rV (X : gX p m meth c cc nL own ret s args G A) (hM : Met l y (Cond.code y bytes maxL rt :: wAll) rm (gPc G (.ref b :: As) wc H.size) Qc mc ms free) (k : gLV own index C y bytes maxL rt n) (hrc : rm.cells = mc) (hrs : rm.slots = ms) (hR : rm.frames + 1 ≤ R.frames ∧ 8 + (maxL + 11) + rm.locals ≤ R.locals)
    (hP : va_P G.1 gCl ws H) (hD : va_D A ws) (hS : va_S A s.heap H locs) (isC : List Nat) (hC : isC.map (fun i => ws[i]?) = wc.map some) (hnd : va_nd isC = true) (q0 ci : Nat) {T : u_T} {N : Nat} {fs : List Value} (hci : gCl[ci]? = some (C, T, N)) (he : ws[q0]? = some (b, .inr (ci, fs)))
    (hn : As.length = n) (hsize : ls.size = nL) (hstack : st0 = As.reverse ++ .ref b :: rest) (hW : (rest.map fun v => v.category).sum ≤ 8) (hdg : decode cc pc = .ok (.invokevirtual index, 3)) (hf : cells + mc ≤ R.cells ∧ slots + ms ≤ R.slots) :
    va_Run p l e R s m args below meth c H locs cells slots mc ms (F0 m pc ls st0) rest (Qc (Value.ref b :: As).toArray) free := by
  have hts := X.2.2.2.2.1
  exact va_runV X.fix hM ⟨⟨hrc, hrs, hR.1, hR.2, g_pay X k.2.2.1, List.mem_cons_self, hts _ k.2.2.1, hts _ k.2.1, ⟨k.2.2.2.1, k.2.2.2.2.1⟩, g_sig k.2.2.2.2.2, hts _ k.1.1⟩, hts _ k.1.2.1, hts _ k.1.2.2⟩ ⟨gPc.blind, va_recv X.k.1 hP hci he, g_pre X hP hD hS isC hC hnd⟩ rfl hn hsize hstack (lv_room hW) hdg hf
theorem g_rVr (X : gX p m meth c cc nL own ret s args G A) (hM : Met l y (Cond.code y bytes maxL rt :: wAll) rm (gPc G (.ref b :: As) wc H.size) Qc mc ms free) (k : gLV own index C y bytes maxL rt n) (hrc : rm.cells = mc) (hrs : rm.slots = ms) (hR : rm.frames + 1 ≤ R.frames ∧ 8 + (maxL + 11) + rm.locals ≤ R.locals)
    (hP : va_P G.1 gCl ws H) (hD : va_D A ws) (hS : va_S A s.heap H locs) (isC : List Nat) (hC : isC.map (fun i => ws[i]?) = wc.map some) (hnd : va_nd isC = true) (hrec : ∃ cell : Cell, H[b]? = some cell ∧ cell.vm.isStatics = false ∧ s.vm.findClass C = some cell.cls)
    (hn : As.length = n) (hsize : ls.size = nL) (hstack : st0 = As.reverse ++ .ref b :: rest) (hW : (rest.map fun v => v.category).sum ≤ 8) (hdg : decode cc pc = .ok (.invokevirtual index, 3)) (hf : cells + mc ≤ R.cells ∧ slots + ms ≤ R.slots) :
    va_Run p l e R s m args below meth c H locs cells slots mc ms (F0 m pc ls st0) rest (Qc (Value.ref b :: As).toArray) free := by
  have hts := X.2.2.2.2.1
  exact va_runV X.fix hM ⟨⟨hrc, hrs, hR.1, hR.2, g_pay X k.2.2.1, List.mem_cons_self, hts _ k.2.2.1, hts _ k.2.1, ⟨k.2.2.2.1, k.2.2.2.2.1⟩, g_sig k.2.2.2.2.2, hts _ k.1.1⟩, hts _ k.1.2.1, hts _ k.1.2.2⟩ ⟨gPc.blind, hrec, g_pre X hP hD hS isC hC hnd⟩ rfl hn hsize hstack (lv_room hW) hdg hf
theorem g_rS (X : gX p m meth c cc nL own ret s args G A) (hM : Met l y (Cond.code y bytes maxL rt :: wAll) rm (gPc G As wc H.size) Qc mc ms free) (k : gLS own index y bytes maxL rt n) (hrc : rm.cells = mc) (hrs : rm.slots = ms) (hR : rm.frames + 1 ≤ R.frames ∧ 8 + (maxL + 11) + rm.locals ≤ R.locals)
    (hP : va_P G.1 gCl ws H) (hD : va_D A ws) (hS : va_S A s.heap H locs) (isC : List Nat) (hC : isC.map (fun i => ws[i]?) = wc.map some) (hnd : va_nd isC = true)
    (hn : As.length = n) (hsize : ls.size = nL) (hstack : st0 = As.reverse ++ rest) (hW : (rest.map fun v => v.category).sum ≤ 8) (hdg : decode cc pc = .ok (.invokestatic index, 3)) (hf : cells + mc ≤ R.cells ∧ slots + ms ≤ R.slots) :
    va_Run p l e R s m args below meth c H locs cells slots mc ms (F0 m pc ls st0) rest (Qc As.toArray) free := by
  have hts := X.2.2.2.2.1
  exact va_runS X.fix hM ⟨⟨hrc, hrs, hR.1, hR.2, g_pay X k.2.2.1, List.mem_cons_self, hts _ k.2.2.1, hts _ k.2.1, ⟨k.2.2.2.1, k.2.2.2.2.1⟩, g_sig k.2.2.2.2.2, hts _ k.1.1⟩, hts _ k.1.2⟩ ⟨gPc.blind, g_pre X hP hD hS isC hC hnd⟩ rfl hn hsize hstack (lv_room hW) hdg hf
theorem g_rN (X : gX p m meth c cc nL own ret s args G A) (hM : Met l y (Cond.code y bytes maxL rt :: wAll) rm (gPc G As wc H.size) Qc mc ms free) (k : gLN own index y host bytes maxL rt n) (hrc : rm.cells = mc) (hrs : rm.slots = ms) (hR : rm.frames + 1 ≤ R.frames ∧ 8 + (maxL + 11) + rm.locals ≤ R.locals)
    (hP : va_P G.1 gCl ws H) (hD : va_D A ws) (hS : va_S A s.heap H locs) (isC : List Nat) (hC : isC.map (fun i => ws[i]?) = wc.map some) (hnd : va_nd isC = true)
    (hn : As.length = n) (hsize : ls.size = nL) (hstack : st0 = As.reverse ++ rest) (hW : (rest.map fun v => v.category).sum ≤ 8) (hdg : decode cc pc = .ok (.invokestatic index, 3)) (hf : cells + mc ≤ R.cells ∧ slots + ms ≤ R.slots) :
    va_Run p l e R s m args below meth c H locs cells slots mc ms (F0 m pc ls st0) rest (Qc As.toArray) free := by
  have hts := X.2.2.2.2.1
  exact va_runSN (host := host) X.fix hM ⟨⟨⟨hrc, hrs, hR.1, hR.2, g_pay X k.2.2.1, List.mem_cons_self⟩, hts _ k.2.2.1, hts _ k.2.1, ⟨k.2.2.2.1, k.2.2.2.2.1⟩, g_sig k.2.2.2.2.2, va_Nw.use rfl (X.k.2.1 _ k.1.1)⟩, hts _ k.1.2, trivial⟩ ⟨gPc.blind, g_pre X hP hD hS isC hC hnd⟩ rfl hn hsize hstack (lv_room hW) hdg hf
theorem g_rI (X : gX p m meth c cc nL own ret s args G A) (hM : Met l y (Cond.code y bytes maxL none :: wAll) rm (gPc G (.ref b :: As) wc H.size) Qc mc ms free) (k : gLI own index y host bytes maxL none n) (hy1 : y.name = "<init>") (hrc : rm.cells = mc) (hrs : rm.slots = ms) (hR : rm.frames + 1 ≤ R.frames ∧ 8 + (maxL + 11) + rm.locals ≤ R.locals)
    (hP : va_P G.1 gCl ws H) (hD : va_D A ws) (hS : va_S A s.heap H locs) (isC : List Nat) (hC : isC.map (fun i => ws[i]?) = wc.map some) (hnd : va_nd isC = true)
    (hn : As.length = n) (hsize : ls.size = nL) (hstack : st0 = As.reverse ++ .ref b :: rest) (hW : (rest.map fun v => v.category).sum ≤ 8) (hdg : decode cc pc = .ok (.invokespecial index, 3)) (hf : cells + mc ≤ R.cells ∧ slots + ms ≤ R.slots) :
    va_Run p l e R s m args below meth c H locs cells slots mc ms (F0 m pc ls st0) rest (Qc (Value.ref b :: As).toArray) free := by
  have hts := X.2.2.2.2.1
  exact va_runIN (host := host) X.fix hM ⟨⟨⟨hrc, hrs, hR.1, hR.2, g_pay X k.2.2.1, List.mem_cons_self⟩, hts _ k.2.2.1, hts _ k.2.1, ⟨k.2.2.2.1, k.2.2.2.2.1⟩, g_sig k.2.2.2.2.2, va_Nw.use rfl (X.k.2.1 _ k.1.1)⟩, hy1, hts _ k.1.2⟩ ⟨gPc.blind, g_pre X hP hD hS isC hC hnd⟩ rfl hn hsize hstack (lv_room hW) hdg hf
theorem g_ci {S : Type} {post : Int32 → S → Prop} {w1 : S → va_W} {av : Array Value} (X : gX p m meth c cc nL own ret s args G A) (isC isR : List Nat) (hr : va_Run p l e R s m args below meth c H locs cells slots mc ms (F0 m pc ls st0) rest (gQi G post w1 (va_A wc H.size) av) (va_A wc H.size)) (hP : va_P G.1 gCl ws H) (hD : va_D A ws) (hS : va_S A s.heap H locs)
    (hC : isC.map (fun i => ws[i]?) = wc.map some) (hRr : isR.map (fun i => ws[i]?) = wr.map some) (hn : va_nd isR = true) (hdis : ∀ i ∈ isR, i ∉ isC)
    (kk : ∀ (r : Int32) (u : S) (H1 : Heap) (locs1 : List Loc), post r u → va_P G.1 gCl (wr ++ w1 u) H1 → va_D A (wr ++ w1 u) → va_S A s.heap H1 locs1 → W p l e R s m args below meth c H1 locs1 (cells + mc) (slots + ms) Q (F0 m (pc + 3) ls (.int r :: rest))) : W p l e R s m args below meth c H locs cells slots Q (F0 m pc ls st0) := by
  have hFc := va_free (wc := wc) hD hS X.hA isC hC
  refine va_calli hr hS (fun q _ h => hFc q h) hFc (fun r u t H1 locs1 ht hvm hw hB hz1 hk1 hS1 => ?_)
  obtain ⟨hP1, hD1⟩ := hB
  rw [ht] at hP1
  obtain ⟨hP2, hD2⟩ := va_join (wr := wr) (w1 := w1 u) hP hD isC isR hC hRr hn hdis hk1 hFc hP1 hD1
  exact kk r u H1 locs1 hw hP2 hD2 hS1
theorem g_cl {S : Type} {post : Int64 → S → Prop} {w1 : S → va_W} {av : Array Value} (X : gX p m meth c cc nL own ret s args G A) (isC isR : List Nat) (hr : va_Run p l e R s m args below meth c H locs cells slots mc ms (F0 m pc ls st0) rest (gQl G post w1 (va_A wc H.size) av) (va_A wc H.size)) (hP : va_P G.1 gCl ws H) (hD : va_D A ws) (hS : va_S A s.heap H locs)
    (hC : isC.map (fun i => ws[i]?) = wc.map some) (hRr : isR.map (fun i => ws[i]?) = wr.map some) (hn : va_nd isR = true) (hdis : ∀ i ∈ isR, i ∉ isC)
    (kk : ∀ (r : Int64) (u : S) (H1 : Heap) (locs1 : List Loc), post r u → va_P G.1 gCl (wr ++ w1 u) H1 → va_D A (wr ++ w1 u) → va_S A s.heap H1 locs1 → W p l e R s m args below meth c H1 locs1 (cells + mc) (slots + ms) Q (F0 m (pc + 3) ls (.long r :: rest))) : W p l e R s m args below meth c H locs cells slots Q (F0 m pc ls st0) := by
  have hFc := va_free (wc := wc) hD hS X.hA isC hC
  refine va_calll hr hS (fun q _ h => hFc q h) hFc (fun r u t H1 locs1 ht hvm hw hB hz1 hk1 hS1 => ?_)
  obtain ⟨hP1, hD1⟩ := hB
  rw [ht] at hP1
  obtain ⟨hP2, hD2⟩ := va_join (wr := wr) (w1 := w1 u) hP hD isC isR hC hRr hn hdis hk1 hFc hP1 hD1
  exact kk r u H1 locs1 hw hP2 hD2 hS1
theorem g_cv {S : Type} {post : S → Prop} {w1 : S → va_W} {av : Array Value} (X : gX p m meth c cc nL own ret s args G A) (isC isR : List Nat) (hr : va_Run p l e R s m args below meth c H locs cells slots mc ms (F0 m pc ls st0) rest (gQv G post w1 (va_A wc H.size) av) (va_A wc H.size)) (hP : va_P G.1 gCl ws H) (hD : va_D A ws) (hS : va_S A s.heap H locs)
    (hC : isC.map (fun i => ws[i]?) = wc.map some) (hRr : isR.map (fun i => ws[i]?) = wr.map some) (hn : va_nd isR = true) (hdis : ∀ i ∈ isR, i ∉ isC)
    (kk : ∀ (u : S) (H1 : Heap) (locs1 : List Loc), post u → va_P G.1 gCl (wr ++ w1 u) H1 → va_D A (wr ++ w1 u) → va_S A s.heap H1 locs1 → W p l e R s m args below meth c H1 locs1 (cells + mc) (slots + ms) Q (F0 m (pc + 3) ls rest)) : W p l e R s m args below meth c H locs cells slots Q (F0 m pc ls st0) := by
  have hFc := va_free (wc := wc) hD hS X.hA isC hC
  refine va_callv hr hS (fun q _ h => hFc q h) hFc (fun u t H1 locs1 ht hvm hw hB hz1 hk1 hS1 => ?_)
  obtain ⟨hP1, hD1⟩ := hB
  rw [ht] at hP1
  obtain ⟨hP2, hD2⟩ := va_join (wr := wr) (w1 := w1 u) hP hD isC isR hC hRr hn hdis hk1 hFc hP1 hD1
  exact kk u H1 locs1 hw hP2 hD2 hS1
variable {q0 N : Nat} {i x : Int32}
theorem g_ist (X : gX p m meth c cc nL own ret s args G A) (hP : va_P G.1 gCl ws H) (hD : va_D A ws) (hS : va_S A s.heap H locs) (q0 : Nat) {N : Nat} {f : Nat → Int32} {i x : Int32} (ha : ws[q0]? = some (a, .inl (G.2.1.1, N, .inl f))) (hin : vp_in i N) (hdg : decode cc pc = .ok (.iastore, 1))
    (kk : ∀ f1 : Nat → Int32, f1 = upd f i.toNatClampNeg x → ∀ (H1 : Heap) (locs1 : List Loc), va_P G.1 gCl (ws.set q0 (a, .inl (G.2.1.1, N, .inl f1))) H1 → va_D A (ws.set q0 (a, .inl (G.2.1.1, N, .inl f1))) → va_S A s.heap H1 locs1 → W p l e R s m args below meth c H1 locs1 cells slots Q (F0 m (pc + 1) ls rest)) : W p l e R s m args below meth c H locs cells slots Q (F0 m pc ls (.int x :: .int i :: .ref a :: rest)) :=
  va_iast (D := G.1) X.1 X.2.1 X.k.1 hP hD hS q0 0 ha rfl hin hdg (fun H1 locs1 hP hD hS => kk _ rfl H1 locs1 hP hD hS)
theorem g_lst (X : gX p m meth c cc nL own ret s args G A) (hP : va_P G.1 gCl ws H) (hD : va_D A ws) (hS : va_S A s.heap H locs) (q0 : Nat) {N : Nat} {f : Nat → Int64} {i : Int32} {x : Int64} (ha : ws[q0]? = some (a, .inl (G.2.1.2.1, N, .inr (.inl f)))) (hin : vp_in i N) (hdg : decode cc pc = .ok (.lastore, 1))
    (kk : ∀ f1 : Nat → Int64, f1 = vp_updL f i.toNatClampNeg x → ∀ (H1 : Heap) (locs1 : List Loc), va_P G.1 gCl (ws.set q0 (a, .inl (G.2.1.2.1, N, .inr (.inl f1)))) H1 → va_D A (ws.set q0 (a, .inl (G.2.1.2.1, N, .inr (.inl f1)))) → va_S A s.heap H1 locs1 → W p l e R s m args below meth c H1 locs1 cells slots Q (F0 m (pc + 1) ls rest)) : W p l e R s m args below meth c H locs cells slots Q (F0 m pc ls (.long x :: .int i :: .ref a :: rest)) :=
  va_last (D := G.1) X.1 X.2.1 X.k.1 hP hD hS q0 1 ha rfl hin hdg (fun H1 locs1 hP hD hS => kk _ rfl H1 locs1 hP hD hS)
theorem g_zst (X : gX p m meth c cc nL own ret s args G A) (hP : va_P G.1 gCl ws H) (hD : va_D A ws) (hS : va_S A s.heap H locs) (q0 : Nat) {N : Nat} {f : Nat → Int32} {i x : Int32} (ha : ws[q0]? = some (a, .inl (G.2.1.2.2, N, .inl f))) (hin : vp_in i N) (hx : x = 0 ∨ x = 1) (hdg : decode cc pc = .ok (.bastore, 1))
    (kk : ∀ f1 : Nat → Int32, f1 = upd f i.toNatClampNeg x → ∀ (H1 : Heap) (locs1 : List Loc), va_P G.1 gCl (ws.set q0 (a, .inl (G.2.1.2.2, N, .inl f1))) H1 → va_D A (ws.set q0 (a, .inl (G.2.1.2.2, N, .inl f1))) → va_S A s.heap H1 locs1 → W p l e R s m args below meth c H1 locs1 cells slots Q (F0 m (pc + 1) ls rest)) : W p l e R s m args below meth c H locs cells slots Q (F0 m pc ls (.int x :: .int i :: .ref a :: rest)) :=
  va_zast (D := G.1) X.1 X.2.1 X.k.1 hP hD hS q0 2 ha rfl hin hdg (fun H1 locs1 hP hD hS => kk _ (by rcases hx with rfl | rfl <;> rfl) H1 locs1 hP hD hS)
end GW
