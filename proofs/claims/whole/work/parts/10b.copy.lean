def gQr {S : Type} (G : gEnv) (post : S → Prop) (w1 : S → Nat → va_W) (A : Nat → Prop) : Array Value → State → Outcome → State → Prop := va_Qr post (fun u a t => va_P G.1 gCl (w1 u a) t.heap ∧ va_D A (w1 u a)) A
section GA
variable {p : Program} {l : Launch} {e : Env} {R : Room} {s : State} {m : MethodId} {args : Array Value} {below : List Frame} {meth : Method} {c : Code} {H : Heap} {locs : List Loc} {cells slots : Nat} {Q : State → Prop}
variable {cc : ByteArray} {nL : Nat} {own : String} {ret : Option FieldType} {G : gEnv} {A : Nat → Prop} {pc : Nat} {ls : Array Slot} {rest : List Value} {ws : va_W} {a : Nat}
theorem g_newI (X : gX p m meth c cc nL own ret s args G A) (hw : Cond.arrayClass .int ∈ wAll) (hP : va_P G.1 gCl ws H) (hD : va_D A ws) (hS : va_S A s.heap H locs) (N : Nat) {n : Int32} (hn : ¬ n < 0) (hN : n.toNatClampNeg = N) (hbytes : N * 4 ≤ 536870912) (hcells : cells + 1 ≤ R.cells) (hslots : slots + N ≤ R.slots) (hdg : decode cc pc = .ok (.newarray .int, 2))
    (kk : ∀ (q : Nat) (H1 : Heap), va_P G.1 gCl (ws ++ [cI G q N (fun _ => 0)]) H1 → va_D A (ws ++ [cI G q N (fun _ => 0)]) → va_S A s.heap H1 locs → W p l e R s m args below meth c H1 locs (cells + 1) (slots + N) Q (F0 m (pc + 2) ls (.ref q :: rest))) : W p l e R s m args below meth c H locs cells slots Q (F0 m pc ls (.int n :: rest)) := by
  refine va_newa (atype := .int) (D := G.1) (a0 := (N, .inl (fun _ => 0))) (ty := .int) X.1 X.2.1 (X.2.2.2.2.1 _ hw) rfl X.k.1 hP hD hS X.hA (fun cA => rfl) hn hN hbytes hcells hslots hdg (fun q cA H1 hK1 hP1 hD1 hS1 => ?_)
  have e1 : s.vm.findClass ("[" ++ FieldType.int.toString) = some cA := (hK1.2 3 _ rfl).2
  have e2 : s.vm.findClass ("[" ++ FieldType.int.toString) = some G.2.1.1 := (X.k.1.2 0 _ rfl).2
  cases e1.symm.trans e2
  exact kk q H1 hP1 hD1 hS1
theorem g_newJ (X : gX p m meth c cc nL own ret s args G A) (hw : Cond.arrayClass .long ∈ wAll) (hP : va_P G.1 gCl ws H) (hD : va_D A ws) (hS : va_S A s.heap H locs) (N : Nat) {n : Int32} (hn : ¬ n < 0) (hN : n.toNatClampNeg = N) (hbytes : N * 8 ≤ 536870912) (hcells : cells + 1 ≤ R.cells) (hslots : slots + N ≤ R.slots) (hdg : decode cc pc = .ok (.newarray .long, 2))
    (kk : ∀ (q : Nat) (H1 : Heap), va_P G.1 gCl (ws ++ [cJ G q N (fun _ => 0)]) H1 → va_D A (ws ++ [cJ G q N (fun _ => 0)]) → va_S A s.heap H1 locs → W p l e R s m args below meth c H1 locs (cells + 1) (slots + N) Q (F0 m (pc + 2) ls (.ref q :: rest))) : W p l e R s m args below meth c H locs cells slots Q (F0 m pc ls (.int n :: rest)) := by
  refine va_newa (atype := .long) (D := G.1) (a0 := (N, .inr (.inl (fun _ => 0)))) (ty := .long) X.1 X.2.1 (X.2.2.2.2.1 _ hw) rfl X.k.1 hP hD hS X.hA (fun cA => rfl) hn hN hbytes hcells hslots hdg (fun q cA H1 hK1 hP1 hD1 hS1 => ?_)
  have e1 : s.vm.findClass ("[" ++ FieldType.long.toString) = some cA := (hK1.2 3 _ rfl).2
  have e2 : s.vm.findClass ("[" ++ FieldType.long.toString) = some G.2.1.2.1 := (X.k.1.2 1 _ rfl).2
  cases e1.symm.trans e2
  exact kk q H1 hP1 hD1 hS1
theorem g_newZ (X : gX p m meth c cc nL own ret s args G A) (hw : Cond.arrayClass .boolean ∈ wAll) (hP : va_P G.1 gCl ws H) (hD : va_D A ws) (hS : va_S A s.heap H locs) (N : Nat) {n : Int32} (hn : ¬ n < 0) (hN : n.toNatClampNeg = N) (hbytes : N * 1 ≤ 536870912) (hcells : cells + 1 ≤ R.cells) (hslots : slots + N ≤ R.slots) (hdg : decode cc pc = .ok (.newarray .boolean, 2))
    (kk : ∀ (q : Nat) (H1 : Heap), va_P G.1 gCl (ws ++ [cZ G q N (fun _ => 0)]) H1 → va_D A (ws ++ [cZ G q N (fun _ => 0)]) → va_S A s.heap H1 locs → W p l e R s m args below meth c H1 locs (cells + 1) (slots + N) Q (F0 m (pc + 2) ls (.ref q :: rest))) : W p l e R s m args below meth c H locs cells slots Q (F0 m pc ls (.int n :: rest)) := by
  refine va_newa (atype := .boolean) (D := G.1) (a0 := (N, .inl (fun _ => 0))) (ty := .boolean) X.1 X.2.1 (X.2.2.2.2.1 _ hw) rfl X.k.1 hP hD hS X.hA (fun cA => rfl) hn hN hbytes hcells hslots hdg (fun q cA H1 hK1 hP1 hD1 hS1 => ?_)
  have e1 : s.vm.findClass ("[" ++ FieldType.boolean.toString) = some cA := (hK1.2 3 _ rfl).2
  have e2 : s.vm.findClass ("[" ++ FieldType.boolean.toString) = some G.2.1.2.2 := (X.k.1.2 2 _ rfl).2
  cases e1.symm.trans e2
  exact kk q H1 hP1 hD1 hS1
theorem g_aret {S : Type} {post : S → Prop} {w1 : S → Nat → va_W} {v : Nat} {t : FieldType} (X : gX p m meth c cc nL own (some (.array t)) s args G A) (u : S) (hp : post u) (hP : va_P G.1 gCl (w1 u v) H) (hD : va_D A (w1 u v)) (hS : va_S A s.heap H locs) (hdg : decode cc pc = .ok (.areturn, 1)) : W p l e R s m args below meth c H locs cells slots (MQ below (gQr G post w1 A) args s cells slots A) (F0 m pc ls [.ref v]) :=
  W.aret (v := .ref v) X.1 X.2.1 X.rty (Or.inr ⟨t, rfl⟩) (Or.inr ⟨v, rfl⟩) (fun t ht hW => ⟨⟨u, v, rfl, hp, by rw [ht]; exact hP, hD⟩, hS.F ht⟩) hS.2.2 hdg X.lk
variable {mc ms : Nat} {wc wr : va_W} {st0 : List Value}
theorem g_cr {S : Type} {post : S → Prop} {w1 : S → Nat → va_W} {av : Array Value} (X : gX p m meth c cc nL own ret s args G A) (isC isR : List Nat) (hr : va_Run p l e R s m args below meth c H locs cells slots mc ms (F0 m pc ls st0) rest (gQr G post w1 (va_A wc H.size) av) (va_A wc H.size)) (hP : va_P G.1 gCl ws H) (hD : va_D A ws) (hS : va_S A s.heap H locs)
    (hC : isC.map (fun i => ws[i]?) = wc.map some) (hRr : isR.map (fun i => ws[i]?) = wr.map some) (hn : va_nd isR = true) (hdis : ∀ i ∈ isR, i ∉ isC)
    (kk : ∀ (u : S) (ra : Nat) (H1 : Heap) (locs1 : List Loc), post u → va_P G.1 gCl (wr ++ w1 u ra) H1 → va_D A (wr ++ w1 u ra) → va_S A s.heap H1 locs1 → W p l e R s m args below meth c H1 locs1 (cells + mc) (slots + ms) Q (F0 m (pc + 3) ls (.ref ra :: rest))) : W p l e R s m args below meth c H locs cells slots Q (F0 m pc ls st0) := by
  have hFc := va_free (wc := wc) hD hS X.hA isC hC
  refine va_callr hr hS (fun q _ h => hFc q h) hFc (fun u ra t H1 locs1 ht hvm hw hB hz1 hk1 hS1 => ?_)
  obtain ⟨hP1, hD1⟩ := hB
  rw [ht] at hP1
  obtain ⟨hP2, hD2⟩ := va_join (wr := wr) (w1 := w1 u ra) hP hD isC isR hC hRr hn hdis hk1 hFc hP1 hD1
  exact kk u ra H1 locs1 hw hP2 hD2 hS1
end GA
theorem mt_J7_304 : Cond.methodLink RJ7 304 Lib.Math.min.name ∈ wAll := inC3 46 rfl rfl
theorem lk_J7_150 : Cond.methodLink RJ7 150 arraycopyName ∈ wAll := inC3 47 rfl rfl
theorem wn_acopy : Cond.native arraycopyName ∈ wAll := inC3 49 rfl rfl
theorem ws_acopy : Cond.static arraycopyName ∈ wAll := inC3 48 rfl rfl
theorem wi_sys : Cond.initialized "java/lang/System" ∈ wAll := inC1 21 rfl rfl
theorem wa_I : Cond.arrayClass .int ∈ wAll := inC1 67 rfl rfl
theorem wa_J : Cond.arrayClass .long ∈ wAll := inC1 206 rfl rfl
theorem wa_Z : Cond.arrayClass .boolean ∈ wAll := inC1 169 rfl rfl
theorem wc_copyI : Cond.code yJ7_copyOf_59c91 cJ7_copyOf_59c91 3 (some (.array .int)) ∈ wAll := inC3 52 rfl rfl
theorem ws_copyI : Cond.static yJ7_copyOf_59c91 ∈ wAll := inC3 51 rfl rfl
set_option maxHeartbeats 4000000 in
set_option maxRecDepth 100000 in
theorem c_copyI (l : Launch) (G : gEnv) (h n N : Nat) (f : Nat → Int32) (hn : n < N) (hN : N < 10001) (sz : Nat) : Met l yJ7_copyOf_59c91 (Cond.code yJ7_copyOf_59c91 cJ7_copyOf_59c91 3 (some (.array .int)) :: wAll) { frames := 1, cells := 1, slots := N, locals := 40 } (gPc G [.ref h, .int (nI N)] [cI G h n f] sz) (gQr G (fun (u : Nat → Int32) => u = aCopy n f) (fun u a => [cI G h n f, cI G a N u]) (va_A [cI G h n f] sz)) 1 N (va_A [cI G h n f] sz) := by
  refine Met.ofW (cc := cJ7_copyOf_59c91) (maxL := 3) (ret := (some (.array .int))) (by decide) rfl ?_
  intro p e s m args below meth c s₁ B hml hv
  obtain ⟨rfl, hsz, hP, hK, hD0⟩ := hv
  subst hsz
  have X := gX.ofB (ws := [cI G h n f]) B hml hK hD0
  have hD := hD0.self (sz := s.heap.size)
  generalize hAe : va_A [cI G h n f] s.heap.size = A at X hD ⊢
  have hS : va_S A s.heap s.heap [] := va_S.rf
  have hl := lv_entry ([.ref h, .int (nI N)]) (n := 3) (Nat.le_of_ble_eq_true rfl)
  rw [lg_entry_eq]
  generalize (lg_sl ([.ref h, .int (nI N)]) ++ List.replicate (3 - (lg_sl ([.ref h, .int (nI N)])).length) Slot.unset).toArray = ls at hl ⊢
  have hl : lv_has ls 3 [(0, .ref h), (1, .int (nI N))] := hl
  dsimp only [headSpec]
  refine lv_iload_n X.1 X.2.1 dJ7_copyOf_59c91_0 rfl (lv_at hl 1 rfl) ?_
  refine lv_aload_n X.1 X.2.1 dJ7_copyOf_59c91_1 rfl (lv_at hl 0 rfl) ?_
  refine va_alen (D := G.1) (v := nI n) X.1 X.2.1 X.k.1 hP 0 0 rfl rfl rfl dJ7_copyOf_59c91_2 ?_
  refine lv_icmp_ne (tgt := 14) X.1 X.2.1 dJ7_copyOf_59c91_3 (by decide) (fun _ => ?_) (fun hc => absurd ((nI_eq (by omega) (by omega)).mp hc) (by omega))
  refine lv_iload_n X.1 X.2.1 dJ7_copyOf_59c91_14 rfl (lv_at hl 1 rfl) ?_
  refine g_newI X wa_I hP hD hS N (nI_pos (by omega)) (nI_clamp (by omega)) (by omega) (Nat.le_of_ble_eq_true rfl) (by show 0 + N ≤ N; omega) dJ7_copyOf_59c91_15 (fun q H hP hD hS => ?_)
  replace hP : va_P G.1 gCl [cI G h n f, cI G q N (fun _ => 0)] H := hP
  replace hD : va_D A [cI G h n f, cI G q N (fun _ => 0)] := hD
  refine lv_astore_n (lv' := [(2, .ref q), (0, .ref h), (1, .int (nI N))]) X.1 X.2.1 dJ7_copyOf_59c91_17 rfl hl (by decide) rfl (fun ls hl => ?_)
  refine lv_aload_n X.1 X.2.1 dJ7_copyOf_59c91_18 rfl (lv_at hl 1 rfl) ?_
  refine lv_iconst (v := (0 : Int32)) X.1 X.2.1 dJ7_copyOf_59c91_19 (by decide) ?_
  refine lv_aload_n X.1 X.2.1 dJ7_copyOf_59c91_20 rfl (lv_at hl 0 rfl) ?_
  refine lv_iconst (v := (0 : Int32)) X.1 X.2.1 dJ7_copyOf_59c91_21 (by decide) ?_
  refine lv_aload_n X.1 X.2.1 dJ7_copyOf_59c91_22 rfl (lv_at hl 1 rfl) ?_
  refine va_alen (D := G.1) (v := nI n) X.1 X.2.1 X.k.1 hP 0 0 rfl rfl rfl dJ7_copyOf_59c91_23 ?_
  refine lv_iload_n X.1 X.2.1 dJ7_copyOf_59c91_24 rfl (lv_at hl 2 rfl) ?_
  refine g_mmin X hl.1 mt_J7_304 (Nat.le_of_ble_eq_true rfl) (Nat.le_of_ble_eq_true rfl) (Nat.le_of_ble_eq_true rfl) (by show 0 + N ≤ N; omega) dJ7_copyOf_59c91_25 ?_
  rw [if_neg (nI_nlt (by omega) (by omega))]
  refine va_copyi (D := G.1) (ty := .int) X.1 X.2.1 (X.2.2.1.trans hl.1.symm) X.2.2.2.1 (X.2.2.2.2.1 _ lk_J7_150) (X.2.2.2.2.1 _ wn_acopy) (X.2.2.2.2.1 _ ws_acopy) (X.2.2.2.2.1 _ wi_sys) X.k.1 hP hD hS 0 1 0 0 rfl rfl rfl rfl rfl (by decide) (by decide) (nI_pos (by omega)) (by rw [nI_clamp (by omega)]; show 0 + n ≤ n; omega) (by rw [nI_clamp (by omega)]; show 0 + n ≤ N; omega) (fun _ _ => rfl) (Nat.le_of_ble_eq_true rfl) (Nat.le_of_ble_eq_true rfl) dJ7_copyOf_59c91_28 (fun H locs hP hD hS => ?_)
  have e9 : va_cpy f (fun _ => 0) (0 : Int32).toNatClampNeg (0 : Int32).toNatClampNeg (nI n).toNatClampNeg = aCopy n f := by
    rw [nI_clamp (by omega)]
    funext j
    show (if 0 ≤ j ∧ j < 0 + n then f (0 + (j - 0)) else 0) = if j < n then f j else 0
    by_cases hj : j < n
    · rw [if_pos (by omega), if_pos hj, Nat.zero_add, Nat.sub_zero]
    · rw [if_neg (by omega), if_neg hj]
  rw [e9] at hP hD
  replace hP : va_P G.1 gCl [cI G h n f, cI G q N (aCopy n f)] H := hP
  replace hD : va_D A [cI G h n f, cI G q N (aCopy n f)] := hD
  refine lv_aload_n X.1 X.2.1 dJ7_copyOf_59c91_31 rfl (lv_at hl 0 rfl) ?_
  refine W.widen (k := 1) (n := N) (Nat.le_refl _) (by show 0 + N ≤ N; omega) ?_
  exact g_aret X (aCopy n f) rfl hP hD hS dJ7_copyOf_59c91_32
theorem wc_copyJ : Cond.code yJ7_copyOf_c38d5 cJ7_copyOf_c38d5 3 (some (.array .long)) ∈ wAll := inC3 38 rfl rfl
theorem ws_copyJ : Cond.static yJ7_copyOf_c38d5 ∈ wAll := inC3 37 rfl rfl
set_option maxHeartbeats 4000000 in
set_option maxRecDepth 100000 in
theorem c_copyJ (l : Launch) (G : gEnv) (h n N : Nat) (f : Nat → Int64) (hn : n < N) (hN : N < 10001) (sz : Nat) : Met l yJ7_copyOf_c38d5 (Cond.code yJ7_copyOf_c38d5 cJ7_copyOf_c38d5 3 (some (.array .long)) :: wAll) { frames := 1, cells := 1, slots := N, locals := 40 } (gPc G [.ref h, .int (nI N)] [cJ G h n f] sz) (gQr G (fun (u : Nat → Int64) => u = aCopyL n f) (fun u a => [cJ G h n f, cJ G a N u]) (va_A [cJ G h n f] sz)) 1 N (va_A [cJ G h n f] sz) := by
  refine Met.ofW (cc := cJ7_copyOf_c38d5) (maxL := 3) (ret := (some (.array .long))) (by decide) rfl ?_
  intro p e s m args below meth c s₁ B hml hv
  obtain ⟨rfl, hsz, hP, hK, hD0⟩ := hv
  subst hsz
  have X := gX.ofB (ws := [cJ G h n f]) B hml hK hD0
  have hD := hD0.self (sz := s.heap.size)
  generalize hAe : va_A [cJ G h n f] s.heap.size = A at X hD ⊢
  have hS : va_S A s.heap s.heap [] := va_S.rf
  have hl := lv_entry ([.ref h, .int (nI N)]) (n := 3) (Nat.le_of_ble_eq_true rfl)
  rw [lg_entry_eq]
  generalize (lg_sl ([.ref h, .int (nI N)]) ++ List.replicate (3 - (lg_sl ([.ref h, .int (nI N)])).length) Slot.unset).toArray = ls at hl ⊢
  have hl : lv_has ls 3 [(0, .ref h), (1, .int (nI N))] := hl
  dsimp only [headSpec]
  refine lv_iload_n X.1 X.2.1 dJ7_copyOf_c38d5_0 rfl (lv_at hl 1 rfl) ?_
  refine lv_aload_n X.1 X.2.1 dJ7_copyOf_c38d5_1 rfl (lv_at hl 0 rfl) ?_
  refine va_alen (D := G.1) (v := nI n) X.1 X.2.1 X.k.1 hP 0 1 rfl rfl rfl dJ7_copyOf_c38d5_2 ?_
  refine lv_icmp_ne (tgt := 14) X.1 X.2.1 dJ7_copyOf_c38d5_3 (by decide) (fun _ => ?_) (fun hc => absurd ((nI_eq (by omega) (by omega)).mp hc) (by omega))
  refine lv_iload_n X.1 X.2.1 dJ7_copyOf_c38d5_14 rfl (lv_at hl 1 rfl) ?_
  refine g_newJ X wa_J hP hD hS N (nI_pos (by omega)) (nI_clamp (by omega)) (by omega) (Nat.le_of_ble_eq_true rfl) (by show 0 + N ≤ N; omega) dJ7_copyOf_c38d5_15 (fun q H hP hD hS => ?_)
  replace hP : va_P G.1 gCl [cJ G h n f, cJ G q N (fun _ => 0)] H := hP
  replace hD : va_D A [cJ G h n f, cJ G q N (fun _ => 0)] := hD
  refine lv_astore_n (lv' := [(2, .ref q), (0, .ref h), (1, .int (nI N))]) X.1 X.2.1 dJ7_copyOf_c38d5_17 rfl hl (by decide) rfl (fun ls hl => ?_)
  refine lv_aload_n X.1 X.2.1 dJ7_copyOf_c38d5_18 rfl (lv_at hl 1 rfl) ?_
  refine lv_iconst (v := (0 : Int32)) X.1 X.2.1 dJ7_copyOf_c38d5_19 (by decide) ?_
  refine lv_aload_n X.1 X.2.1 dJ7_copyOf_c38d5_20 rfl (lv_at hl 0 rfl) ?_
  refine lv_iconst (v := (0 : Int32)) X.1 X.2.1 dJ7_copyOf_c38d5_21 (by decide) ?_
  refine lv_aload_n X.1 X.2.1 dJ7_copyOf_c38d5_22 rfl (lv_at hl 1 rfl) ?_
  refine va_alen (D := G.1) (v := nI n) X.1 X.2.1 X.k.1 hP 0 1 rfl rfl rfl dJ7_copyOf_c38d5_23 ?_
  refine lv_iload_n X.1 X.2.1 dJ7_copyOf_c38d5_24 rfl (lv_at hl 2 rfl) ?_
  refine g_mmin X hl.1 mt_J7_304 (Nat.le_of_ble_eq_true rfl) (Nat.le_of_ble_eq_true rfl) (Nat.le_of_ble_eq_true rfl) (by show 0 + N ≤ N; omega) dJ7_copyOf_c38d5_25 ?_
  rw [if_neg (nI_nlt (by omega) (by omega))]
  refine va_copyl (D := G.1) (ty := .long) X.1 X.2.1 (X.2.2.1.trans hl.1.symm) X.2.2.2.1 (X.2.2.2.2.1 _ lk_J7_150) (X.2.2.2.2.1 _ wn_acopy) (X.2.2.2.2.1 _ ws_acopy) (X.2.2.2.2.1 _ wi_sys) X.k.1 hP hD hS 0 1 1 1 rfl rfl rfl rfl rfl (by decide) (by decide) (nI_pos (by omega)) (by rw [nI_clamp (by omega)]; show 0 + n ≤ n; omega) (by rw [nI_clamp (by omega)]; show 0 + n ≤ N; omega) (fun _ _ => rfl) (Nat.le_of_ble_eq_true rfl) (Nat.le_of_ble_eq_true rfl) dJ7_copyOf_c38d5_28 (fun H locs hP hD hS => ?_)
  have e9 : va_cpy f (fun _ => 0) (0 : Int32).toNatClampNeg (0 : Int32).toNatClampNeg (nI n).toNatClampNeg = aCopyL n f := by
    rw [nI_clamp (by omega)]
    funext j
    show (if 0 ≤ j ∧ j < 0 + n then f (0 + (j - 0)) else 0) = if j < n then f j else 0
    by_cases hj : j < n
    · rw [if_pos (by omega), if_pos hj, Nat.zero_add, Nat.sub_zero]
    · rw [if_neg (by omega), if_neg hj]
  rw [e9] at hP hD
  replace hP : va_P G.1 gCl [cJ G h n f, cJ G q N (aCopyL n f)] H := hP
  replace hD : va_D A [cJ G h n f, cJ G q N (aCopyL n f)] := hD
  refine lv_aload_n X.1 X.2.1 dJ7_copyOf_c38d5_31 rfl (lv_at hl 0 rfl) ?_
  refine W.widen (k := 1) (n := N) (Nat.le_refl _) (by show 0 + N ≤ N; omega) ?_
  exact g_aret X (aCopyL n f) rfl hP hD hS dJ7_copyOf_c38d5_32
