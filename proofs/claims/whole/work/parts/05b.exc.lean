def gEx (k : Int32) : String := if k = 1 then "java/lang/ArrayIndexOutOfBoundsException" else "java/lang/IllegalStateException"
def gXC {S : Type} (G : gEnv) (px : Int32 → S → Prop) (w1 : S → va_W) (A : Nat → Prop) : String → State → State → Prop := vx_X (fun u : Int32 × S => px u.1 u.2) (fun E u t => E = gEx u.1 ∧ va_P G.1 gCl (w1 u.2) t.heap ∧ va_D A (w1 u.2)) A
section GE
variable {p : Program} {l : Launch} {e : Env} {R : Room} {s : State} {m : MethodId} {args : Array Value} {below : List Frame} {meth : Method} {c : Code} {H : Heap} {locs : List Loc} {cells slots : Nat} {Q : State → Prop}
variable {cc : ByteArray} {nL : Nat} {own : String} {ret : Option FieldType} {G : gEnv} {A : Nat → Prop} {pc : Nat} {ls : Array Slot} {rest : List Value} {ws : va_W} {a : Nat}
theorem g_xc {S : Type} {px : Int32 → S → Prop} {w1 : S → va_W} (k : Int32) {E : String} (hE : E = gEx k) (u : S) (hp : px k u) (hP : va_P G.1 gCl (w1 u) H) (hD : va_D A (w1 u)) (hS : va_S A s.heap H locs) : ∀ t : State, s.vm.Alike t.vm → H.size ≤ t.heap.size → (∀ q : Nat, q < H.size → t.heap[q]? = H[q]?) → gXC G px w1 A E s t :=
  fun t _ hz hq => ⟨(k, u), hp, ⟨hE, hP.kept (fun j q hj => hq q.1 (hP j q hj).lt), hD⟩, Nat.le_trans hS.1 hz, fun q h1 h2 => (hq q (Nat.lt_of_lt_of_le h1 hS.1)).trans (hS.2.1 q h1 h2)⟩
theorem g_hat (X : gX p m meth c cc nL own ret s args G A) {L : List Cond} (h1 : ∀ w ∈ L.filter goodWord, w ∈ lw_tbl) (h2 : ∀ w ∈ L.filter (fun w => !goodWord w), w ∈ gDW) : ∀ w ∈ L, w.before args s = true :=
  vx_hat (fun w hw => X.2.2.2.2.1 w (List.mem_filter.mpr ⟨h1 w hw, (List.mem_filter.mp hw).2⟩)) h2 (X.k.2.2.2.2.dw)
variable {y : MethodName} {bytes : ByteArray} {maxL mc ms n index : Nat} {rt : Option FieldType} {rm : Room} {Qc : Array Value → State → Outcome → State → Prop} {XC : String → State → State → Prop} {free : Addr → Prop} {C : String} {b : Addr} {As : List Value} {wc wr : va_W} {st0 : List Value}
theorem g_rVx (X : gX p m meth c cc nL own ret s args G A) (hM : vx_Met l y (Cond.code y bytes maxL rt :: wAll) rm (gPc G (.ref b :: As) wc H.size) Qc XC mc ms free) (k : gLV own index C y bytes maxL rt n) (hrc : rm.cells = mc) (hrs : rm.slots = ms) (hR : rm.frames + 1 ≤ R.frames ∧ 8 + (maxL + 11) + rm.locals ≤ R.locals)
    (hP : va_P G.1 gCl ws H) (hD : va_D A ws) (hS : va_S A s.heap H locs) (isC : List Nat) (hC : isC.map (fun i => ws[i]?) = wc.map some) (hnd : va_nd isC = true) (q0 ci : Nat) {T : u_T} {N : Nat} {fs : List Value} (hci : gCl[ci]? = some (C, T, N)) (he : ws[q0]? = some (b, .inr (ci, fs)))
    (hn : As.length = n) (hsize : ls.size = nL) (hstack : st0 = As.reverse ++ .ref b :: rest) (hW : (rest.map fun v => v.category).sum ≤ 8) (hdg : decode cc pc = .ok (.invokevirtual index, 3)) (hf : cells + mc ≤ R.cells ∧ slots + ms ≤ R.slots) :
    vx_Run p l e R s m args below meth c H locs cells slots mc ms (F0 m pc ls st0) rest (Qc (Value.ref b :: As).toArray) XC free := by
  have hts := X.2.2.2.2.1
  exact vx_runV X.fix hM ⟨⟨hrc, hrs, hR.1, hR.2, g_pay X k.2.2.1, List.mem_cons_self, hts _ k.2.2.1, hts _ k.2.1, ⟨k.2.2.2.1, k.2.2.2.2.1⟩, g_sig k.2.2.2.2.2, hts _ k.1.1⟩, hts _ k.1.2.1, hts _ k.1.2.2⟩ ⟨gPc.blind, va_recv X.k.1 hP hci he, g_pre X hP hD hS isC hC hnd⟩ rfl hn hsize hstack (lv_room hW) hdg hf
theorem g_xl {S : Type} {post : Int64 → S → Prop} {px : Int32 → S → Prop} {w1 : S → va_W} {av : Array Value} (X : gX p m meth c cc nL own ret s args G A) (isC isR : List Nat) (hr : vx_Run p l e R s m args below meth c H locs cells slots mc ms (F0 m pc ls st0) rest (gQl G post w1 (va_A wc H.size) av) (gXC G px w1 (va_A wc H.size)) (va_A wc H.size)) (hP : va_P G.1 gCl ws H) (hD : va_D A ws) (hS : va_S A s.heap H locs)
    (hC : isC.map (fun i => ws[i]?) = wc.map some) (hRr : isR.map (fun i => ws[i]?) = wr.map some) (hn : va_nd isR = true) (hdis : ∀ i ∈ isR, i ∉ isC)
    (kx : ∀ (E : String) (ce : Cell) (q9 : Addr) (k : Int32) (u : S) (H1 : Heap) (locs1 : List Loc), px k u → E = gEx k → va_P G.1 gCl (wr ++ w1 u) H1 → va_D A (wr ++ w1 u) → va_S A s.heap H1 locs1 → H1[q9]? = some ce → ce.vm = .none → s.vm.findClass E = some ce.cls → vx_W p l e R s m args below meth c H1 locs1 (cells + mc) (slots + ms) Q (F0 m pc ls rest) q9)
    (kk : ∀ (r : Int64) (u : S) (H1 : Heap) (locs1 : List Loc), post r u → va_P G.1 gCl (wr ++ w1 u) H1 → va_D A (wr ++ w1 u) → va_S A s.heap H1 locs1 → W p l e R s m args below meth c H1 locs1 (cells + mc) (slots + ms) Q (F0 m (pc + 3) ls (.long r :: rest))) : W p l e R s m args below meth c H locs cells slots Q (F0 m pc ls st0) := by
  have hFc := va_free (wc := wc) hD hS X.hA isC hC
  refine vx_calll hr hS (fun q _ h => hFc q h) hFc (fun q _ h => hFc q h) (fun E ce q9 u t H1 locs1 ht hvm hw hB hz1 hk1 hS1 h7 h8 h9 => ?_) (fun r u t H1 locs1 ht hvm hw hB hz1 hk1 hS1 => ?_)
  · obtain ⟨hE, hP1, hD1⟩ := hB
    rw [ht] at hP1
    obtain ⟨hP2, hD2⟩ := va_join (wr := wr) (w1 := w1 u.2) hP hD isC isR hC hRr hn hdis hk1 hFc hP1 hD1
    exact kx E ce q9 u.1 u.2 H1 locs1 hw hE hP2 hD2 hS1 h7 h8 h9
  · obtain ⟨hP1, hD1⟩ := hB
    rw [ht] at hP1
    obtain ⟨hP2, hD2⟩ := va_join (wr := wr) (w1 := w1 u) hP hD isC isR hC hRr hn hdis hk1 hFc hP1 hD1
    exact kk r u H1 locs1 hw hP2 hD2 hS1
theorem g_xi {S : Type} {post : Int32 → S → Prop} {px : Int32 → S → Prop} {w1 : S → va_W} {av : Array Value} (X : gX p m meth c cc nL own ret s args G A) (isC isR : List Nat) (hr : vx_Run p l e R s m args below meth c H locs cells slots mc ms (F0 m pc ls st0) rest (gQi G post w1 (va_A wc H.size) av) (gXC G px w1 (va_A wc H.size)) (va_A wc H.size)) (hP : va_P G.1 gCl ws H) (hD : va_D A ws) (hS : va_S A s.heap H locs)
    (hC : isC.map (fun i => ws[i]?) = wc.map some) (hRr : isR.map (fun i => ws[i]?) = wr.map some) (hn : va_nd isR = true) (hdis : ∀ i ∈ isR, i ∉ isC)
    (kx : ∀ (E : String) (ce : Cell) (q9 : Addr) (k : Int32) (u : S) (H1 : Heap) (locs1 : List Loc), px k u → E = gEx k → va_P G.1 gCl (wr ++ w1 u) H1 → va_D A (wr ++ w1 u) → va_S A s.heap H1 locs1 → H1[q9]? = some ce → ce.vm = .none → s.vm.findClass E = some ce.cls → vx_W p l e R s m args below meth c H1 locs1 (cells + mc) (slots + ms) Q (F0 m pc ls rest) q9)
    (kk : ∀ (r : Int32) (u : S) (H1 : Heap) (locs1 : List Loc), post r u → va_P G.1 gCl (wr ++ w1 u) H1 → va_D A (wr ++ w1 u) → va_S A s.heap H1 locs1 → W p l e R s m args below meth c H1 locs1 (cells + mc) (slots + ms) Q (F0 m (pc + 3) ls (.int r :: rest))) : W p l e R s m args below meth c H locs cells slots Q (F0 m pc ls st0) := by
  have hFc := va_free (wc := wc) hD hS X.hA isC hC
  refine vx_calli hr hS (fun q _ h => hFc q h) hFc (fun q _ h => hFc q h) (fun E ce q9 u t H1 locs1 ht hvm hw hB hz1 hk1 hS1 h7 h8 h9 => ?_) (fun r u t H1 locs1 ht hvm hw hB hz1 hk1 hS1 => ?_)
  · obtain ⟨hE, hP1, hD1⟩ := hB
    rw [ht] at hP1
    obtain ⟨hP2, hD2⟩ := va_join (wr := wr) (w1 := w1 u.2) hP hD isC isR hC hRr hn hdis hk1 hFc hP1 hD1
    exact kx E ce q9 u.1 u.2 H1 locs1 hw hE hP2 hD2 hS1 h7 h8 h9
  · obtain ⟨hP1, hD1⟩ := hB
    rw [ht] at hP1
    obtain ⟨hP2, hD2⟩ := va_join (wr := wr) (w1 := w1 u) hP hD isC isR hC hRr hn hdis hk1 hFc hP1 hD1
    exact kk r u H1 locs1 hw hP2 hD2 hS1
/-- an exception that a callee threw goes on out of this method -/
theorem g_pass {S : Type} {px : Int32 → S → Prop} {w1 : S → va_W} {q : Addr} {ce : Cell} {E : String} (X : gX p m meth c cc nL own ret s args G A) (hET : ∀ x ∈ c.exceptionTable.toList, False) (k : Int32) (hE : E = gEx k) (u : S) (hp : px k u) (hP : va_P G.1 gCl (w1 u) H) (hD : va_D A (w1 u)) (hS : va_S A s.heap H locs) (h7 : H[q]? = some ce) (h8 : ce.vm = .none) (h9 : s.vm.findClass E = some ce.cls) (hc : cells ≤ mc) (hs : slots ≤ ms) : vx_W p l e R s m args below meth c H locs cells slots (vx_MQ below Qc (gXC G px w1 A) args s mc ms A) (F0 m pc ls rest) q :=
  vx_out (fun x hx => (hET x hx).elim) X.lk h7 h8 h9 (fun t ht hvm => g_xc k hE u hp hP hD hS t hvm (by rw [ht]; exact Nat.le_refl _) (fun q _ => by rw [ht])) hS.2.2 hc hs
end GE
abbrev gNmI : List String := ["java/lang/IndexOutOfBoundsException", "java/lang/RuntimeException", "java/lang/Exception"]
abbrev gNmS : List String := ["java/lang/RuntimeException", "java/lang/Exception"]
theorem at_I1 : ∀ w ∈ (vx_atS RX5 109 "java/lang/ArrayIndexOutOfBoundsException" gNmI).filter goodWord, w ∈ lw_tbl := by decide +kernel
theorem at_I2 : ∀ w ∈ (vx_atS RX5 109 "java/lang/ArrayIndexOutOfBoundsException" gNmI).filter (fun w => !goodWord w), w ∈ gDW := by decide +kernel
theorem at_I3 : ∀ w ∈ Cond.classLink RX5 105 "java/lang/ArrayIndexOutOfBoundsException" :: Cond.initialized "java/lang/ArrayIndexOutOfBoundsException" :: vx_atS RX5 109 "java/lang/ArrayIndexOutOfBoundsException" gNmI, vx_ot w = true := by decide +kernel
theorem at_S1 : ∀ w ∈ (vx_atS RX5 102 "java/lang/IllegalStateException" gNmS).filter goodWord, w ∈ lw_tbl := by decide +kernel
theorem at_S2 : ∀ w ∈ (vx_atS RX5 102 "java/lang/IllegalStateException" gNmS).filter (fun w => !goodWord w), w ∈ gDW := by decide +kernel
theorem at_S3 : ∀ w ∈ Cond.classLink RX5 98 "java/lang/IllegalStateException" :: Cond.initialized "java/lang/IllegalStateException" :: vx_atS RX5 102 "java/lang/IllegalStateException" gNmS, vx_ot w = true := by decide +kernel
theorem cl_I : Cond.classLink RX5 105 "java/lang/ArrayIndexOutOfBoundsException" ∈ wAll := inC3 169 rfl rfl
theorem cl_S : Cond.classLink RX5 98 "java/lang/IllegalStateException" ∈ wAll := inC3 103 rfl rfl
theorem wi_I : Cond.initialized "java/lang/ArrayIndexOutOfBoundsException" ∈ wAll := inC1 15 rfl rfl
theorem wi_S : Cond.initialized "java/lang/IllegalStateException" ∈ wAll := inC1 13 rfl rfl
