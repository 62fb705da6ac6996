theorem fl_J0_38 : Cond.fieldLink RJ0 38 "java/lang/String" "COMPACT_STRINGS" "Z" ∈ wAll := inC2 158 rfl rfl
theorem fl_J0_15 : Cond.fieldLink RJ0 15 "java/lang/String" "coder" "B" ∈ wAll := inC5 1 rfl rfl
theorem fl_J0_9 : Cond.fieldLink RJ0 9 "java/lang/String" "value" "[B" ∈ wAll := inC5 0 rfl rfl
theorem fl_J0_1053 : Cond.fieldLink RJ0 1053 "jdk/internal/util/Preconditions" "SIOOBE_FORMATTER" "Ljava/util/function/BiFunction;" ∈ wAll := inC2 174 rfl rfl
theorem wi_J0 : Cond.initialized RJ0 ∈ wAll := inC1 16 rfl rfl
theorem wi_J1 : Cond.initialized RJ1 ∈ wAll := inC1 17 rfl rfl
theorem wi_J3 : Cond.initialized RJ3 ∈ wAll := inC1 18 rfl rfl
theorem lk_J0_335 : gLV RJ0 335 RJ0 yJ0_coder_7d493 cJ0_coder_7d493 1 (some .byte) 0 := ⟨⟨inC2 154 rfl rfl, inC2 155 rfl rfl, inC2 156 rfl rfl⟩, wi_J0, inC2 157 rfl rfl, by decide +kernel, by decide +kernel, by decide +kernel⟩
theorem lk_J0_492 : gLV RJ0 492 RJ0 yJ0_isLatin1_aae02 cJ0_isLatin1_aae02 1 (some .boolean) 0 := ⟨⟨inC2 164 rfl rfl, inC2 165 rfl rfl, inC2 166 rfl rfl⟩, wi_J0, inC2 167 rfl rfl, by decide +kernel, by decide +kernel, by decide +kernel⟩
theorem lk_J0_495 : gLS RJ0 495 yJ1_charAt_3b067 cJ1_charAt_3b067 2 (some .char) 2 := ⟨⟨inC2 168 rfl rfl, inC2 169 rfl rfl⟩, wi_J1, inC2 170 rfl rfl, by decide +kernel, by decide +kernel, by decide +kernel⟩
theorem lk_J1_9 : gLS RJ1 9 yJ0_checkIndex_df160 cJ0_checkIndex_df160 2 none 2 := ⟨⟨inC2 171 rfl rfl, inC2 172 rfl rfl⟩, wi_J0, inC2 173 rfl rfl, by decide +kernel, by decide +kernel, by decide +kernel⟩
theorem lk_J0_1059 : gLS RJ0 1059 yJ3_checkIndex_8e157 cJ3_checkIndex_8e157 3 (some .int) 3 := ⟨⟨inC2 176 rfl rfl, inC2 177 rfl rfl⟩, wi_J3, inC2 178 rfl rfl, by decide +kernel, by decide +kernel, by decide +kernel⟩
theorem lk_X1_38 : gLV RX1 38 RJ0 yJ0_length_8abf5 cJ0_length_8abf5 1 (some .int) 0 := ⟨⟨inC2 150 rfl rfl, inC2 151 rfl rfl, inC2 152 rfl rfl⟩, wi_J0, inC2 153 rfl rfl, by decide +kernel, by decide +kernel, by decide +kernel⟩
theorem lk_X1_44 : gLV RX1 44 RJ0 yJ0_charAt_5068e cJ0_charAt_5068e 2 (some .char) 1 := ⟨⟨inC2 160 rfl rfl, inC2 161 rfl rfl, inC2 162 rfl rfl⟩, wi_J0, inC2 163 rfl rfl, by decide +kernel, by decide +kernel, by decide +kernel⟩
abbrev rm_0 : Room := { frames := 0, cells := 0, slots := 0, locals := 0 }
abbrev rm_s1 : Room := { frames := 1, cells := 0, slots := 0, locals := 30 }
abbrev rm_s2 : Room := { frames := 2, cells := 0, slots := 0, locals := 60 }
abbrev rm_s3 : Room := { frames := 3, cells := 0, slots := 0, locals := 90 }
abbrev gA0 (G : gEnv) : Nat := G.2.2.2.1 0
def jLet (k : Nat) : Int32 := ((gLet.getD k 0 &&& 255).toUInt32 % 65536).toInt32
theorem jLet_all : ∀ k, k < 8 → narrow .char (.int (jLet k)) = .int (jLet k) ∧ jLet k = gLet.getD k 0 := by decide +kernel
theorem jLet_c (k : Nat) (hk : k < 8) : ((gLet.getD k 0 &&& 255).toUInt32 % 65536).toInt32 = jLet k := rfl
theorem jLet_n (k : Nat) (hk : k < 8) : narrow .char (.int (jLet k)) = .int (jLet k) := (jLet_all k hk).1
set_option maxHeartbeats 4000000 in
set_option maxRecDepth 100000 in
theorem c_coder (l : Launch) (G : gEnv) (sz : Nat) : Met l yJ0_coder_7d493 (Cond.code yJ0_coder_7d493 cJ0_coder_7d493 1 (some .byte) :: wAll) rm_0 (gPc G [.ref (gA0 G)] [] sz) (gQi G (fun (r : Int32) (u : Unit) => r = 0) (fun _ => []) (va_A [] sz)) 0 0 (va_A [] sz) := by
  refine va_MetF (cc := cJ0_coder_7d493) (maxL := 1) (ret := (some .byte)) (by decide +kernel) rfl ?_
  intro p e s m args below meth c s₁ B hml hv
  obtain ⟨rfl, hsz, hP, hK, hD0⟩ := hv
  subst hsz
  have X := gX.ofB (ws := []) B hml hK hD0
  have hD := hD0.self (sz := s.heap.size)
  generalize hAe : va_A [] s.heap.size = A at X hD ⊢
  have hS : va_S A s.heap s.heap [] := va_S.rf
  have hl := lv_entry ([.ref (gA0 G)]) (n := 1) (Nat.le_of_ble_eq_true rfl)
  rw [lg_entry_eq]
  generalize (lg_sl ([.ref (gA0 G)]) ++ List.replicate (1 - (lg_sl ([.ref (gA0 G)])).length) Slot.unset).toArray = ls at hl ⊢
  have hl : lv_has ls 1 [(0, .ref (gA0 G))] := hl
  refine va_gets (A := A) X.1 X.2.1 (X.k.2.2.2.1.2.1.narrow X.new) hS X.2.2.2.1 (X.2.2.2.2.1 _ fl_J0_38) (fun _ h => h) dJ0_coder_7d493_0 ?_
  refine lv_if_eq (tgt := 13) X.1 X.2.1 dJ0_coder_7d493_3 (by decide) (fun hc => absurd hc (by decide)) (fun hc => ?_)
  refine lv_aload_n X.1 X.2.1 dJ0_coder_7d493_6 rfl (lv_at hl 0 rfl) ?_
  refine vk_getf X.1 X.2.1 ((X.k.2.2.2.1.2.2.1.1 0 (by decide)).2.1.narrow X.new) hS X.2.2.2.1 (X.2.2.2.2.1 _ fl_J0_15) (fun _ h => h) dJ0_coder_7d493_7 ?_
  refine lv_goto (tgt := 14) X.1 X.2.1 dJ0_coder_7d493_10 (by decide) ?_
  exact g_nret X rfl () rfl hP hD hS dJ0_coder_7d493_14
set_option maxHeartbeats 4000000 in
set_option maxRecDepth 100000 in
theorem c_isLatin1 (l : Launch) (G : gEnv) (sz : Nat) : Met l yJ0_isLatin1_aae02 (Cond.code yJ0_isLatin1_aae02 cJ0_isLatin1_aae02 1 (some .boolean) :: wAll) rm_0 (gPc G [.ref (gA0 G)] [] sz) (gQi G (fun (r : Int32) (u : Unit) => r = 1) (fun _ => []) (va_A [] sz)) 0 0 (va_A [] sz) := by
  refine va_MetF (cc := cJ0_isLatin1_aae02) (maxL := 1) (ret := (some .boolean)) (by decide +kernel) rfl ?_
  intro p e s m args below meth c s₁ B hml hv
  obtain ⟨rfl, hsz, hP, hK, hD0⟩ := hv
  subst hsz
  have X := gX.ofB (ws := []) B hml hK hD0
  have hD := hD0.self (sz := s.heap.size)
  generalize hAe : va_A [] s.heap.size = A at X hD ⊢
  have hS : va_S A s.heap s.heap [] := va_S.rf
  have hl := lv_entry ([.ref (gA0 G)]) (n := 1) (Nat.le_of_ble_eq_true rfl)
  rw [lg_entry_eq]
  generalize (lg_sl ([.ref (gA0 G)]) ++ List.replicate (1 - (lg_sl ([.ref (gA0 G)])).length) Slot.unset).toArray = ls at hl ⊢
  have hl : lv_has ls 1 [(0, .ref (gA0 G))] := hl
  refine va_gets (A := A) X.1 X.2.1 (X.k.2.2.2.1.2.1.narrow X.new) hS X.2.2.2.1 (X.2.2.2.2.1 _ fl_J0_38) (fun _ h => h) dJ0_isLatin1_aae02_0 ?_
  refine lv_if_eq (tgt := 17) X.1 X.2.1 dJ0_isLatin1_aae02_3 (by decide) (fun hc => absurd hc (by decide)) (fun hc => ?_)
  refine lv_aload_n X.1 X.2.1 dJ0_isLatin1_aae02_6 rfl (lv_at hl 0 rfl) ?_
  refine vk_getf X.1 X.2.1 ((X.k.2.2.2.1.2.2.1.1 0 (by decide)).2.1.narrow X.new) hS X.2.2.2.1 (X.2.2.2.2.1 _ fl_J0_15) (fun _ h => h) dJ0_isLatin1_aae02_7 ?_
  refine lv_if_ne (tgt := 17) X.1 X.2.1 dJ0_isLatin1_aae02_10 (by decide) (fun hc => absurd rfl hc) (fun hc => ?_)
  refine lv_iconst (v := (1 : Int32)) X.1 X.2.1 dJ0_isLatin1_aae02_13 (by decide) ?_
  refine lv_goto (tgt := 18) X.1 X.2.1 dJ0_isLatin1_aae02_14 (by decide) ?_
  exact g_nret X rfl () rfl hP hD hS dJ0_isLatin1_aae02_18
set_option maxHeartbeats 4000000 in
set_option maxRecDepth 100000 in
theorem c_checkIndexP (l : Launch) (G : gEnv) (i n : Int32) (f : Value) (hf : f = .null ∨ ∃ q, f = .ref q) (h0 : ¬ i < 0) (hn : i < n) (sz : Nat) : Met l yJ3_checkIndex_8e157 (Cond.code yJ3_checkIndex_8e157 cJ3_checkIndex_8e157 3 (some .int) :: wAll) rm_0 (gPc G [.int i, .int n, f] [] sz) (gQi G (fun (r : Int32) (u : Unit) => r = i) (fun _ => []) (va_A [] sz)) 0 0 (va_A [] sz) := by
  have hcat : lg_sl [.int i, .int n, f] = [.val (.int i), .val (.int n), .val f] := by rcases hf with rfl | ⟨q, rfl⟩ <;> rfl
  refine va_MetF (cc := cJ3_checkIndex_8e157) (maxL := 3) (ret := (some .int)) (by decide +kernel) rfl ?_
  intro p e s m args below meth c s₁ B hml hv
  obtain ⟨rfl, hsz, hP, hK, hD0⟩ := hv
  subst hsz
  have X := gX.ofB (ws := []) B hml hK hD0
  have hD := hD0.self (sz := s.heap.size)
  generalize hAe : va_A [] s.heap.size = A at X hD ⊢
  have hS : va_S A s.heap s.heap [] := va_S.rf
  have hl := lv_entry ([.int i, .int n, f]) (n := 3) (by rw [hcat]; exact Nat.le_refl 3)
  rw [lg_entry_eq]
  generalize (lg_sl ([.int i, .int n, f]) ++ List.replicate (3 - (lg_sl ([.int i, .int n, f])).length) Slot.unset).toArray = ls at hl ⊢
  have hl : lv_has ls 3 [(0, .int i), (1, .int n)] := ⟨hl.1, hl.2.1, fun q hq => hl.2.2 q (by
    rcases List.mem_cons.mp hq with h | h
    · rw [h]; exact List.mem_cons_self
    · rw [List.mem_singleton.mp h]; exact List.mem_cons_of_mem _ List.mem_cons_self)⟩
  refine lv_iload_n X.1 X.2.1 dJ3_checkIndex_8e157_0 rfl (lv_at hl 0 rfl) ?_
  refine lv_if_lt (tgt := 9) X.1 X.2.1 dJ3_checkIndex_8e157_1 (by decide) (fun hc => absurd hc h0) (fun hc => ?_)
  refine lv_iload_n X.1 X.2.1 dJ3_checkIndex_8e157_4 rfl (lv_at hl 0 rfl) ?_
  refine lv_iload_n X.1 X.2.1 dJ3_checkIndex_8e157_5 rfl (lv_at hl 1 rfl) ?_
  refine lv_icmp_lt (tgt := 16) X.1 X.2.1 dJ3_checkIndex_8e157_6 (by decide) (fun hc => ?_) (fun hc => absurd hn hc)
  refine lv_iload_n X.1 X.2.1 dJ3_checkIndex_8e157_16 rfl (lv_at hl 0 rfl) ?_
  exact g_iret X () rfl hP hD hS dJ3_checkIndex_8e157_17
set_option maxHeartbeats 4000000 in
set_option maxRecDepth 100000 in
theorem c_checkIndexS (l : Launch) (G : gEnv) (i n : Int32) (h0 : ¬ i < 0) (hn : i < n) (sz : Nat) : Met l yJ0_checkIndex_df160 (Cond.code yJ0_checkIndex_df160 cJ0_checkIndex_df160 2 none :: wAll) rm_s1 (gPc G [.int i, .int n] [] sz) (gQv G (fun (u : Unit) => True) (fun _ => []) (va_A [] sz)) 0 0 (va_A [] sz) := by
  refine va_MetF (cc := cJ0_checkIndex_df160) (maxL := 2) (ret := none) (by decide +kernel) rfl ?_
  intro p e s m args below meth c s₁ B hml hv
  obtain ⟨rfl, hsz, hP, hK, hD0⟩ := hv
  subst hsz
  have X := gX.ofB (ws := []) B hml hK hD0
  have hD := hD0.self (sz := s.heap.size)
  generalize hAe : va_A [] s.heap.size = A at X hD ⊢
  have hS : va_S A s.heap s.heap [] := va_S.rf
  have hl := lv_entry ([.int i, .int n]) (n := 2) (Nat.le_of_ble_eq_true rfl)
  rw [lg_entry_eq]
  generalize (lg_sl ([.int i, .int n]) ++ List.replicate (2 - (lg_sl ([.int i, .int n])).length) Slot.unset).toArray = ls at hl ⊢
  have hl : lv_has ls 2 [(0, .int i), (1, .int n)] := hl
  refine lv_iload_n X.1 X.2.1 dJ0_checkIndex_df160_0 rfl (lv_at hl 0 rfl) ?_
  refine lv_iload_n X.1 X.2.1 dJ0_checkIndex_df160_1 rfl (lv_at hl 1 rfl) ?_
  obtain ⟨f, hf, hZ⟩ : ∃ f : Value, (f = .null ∨ ∃ q, f = .ref q) ∧ va_Z "jdk/internal/util/Preconditions" "SIOOBE_FORMATTER" "Ljava/util/function/BiFunction;" f (gNew G) s s.heap := by
    rcases X.k.2.2.2.1.2.2.2.2.2 with h | ⟨t, h⟩
    · exact ⟨.null, Or.inl rfl, h⟩
    · exact ⟨.ref t, Or.inr ⟨t, rfl⟩, h⟩
  refine va_gets (A := A) X.1 X.2.1 (hZ.narrow X.new) hS X.2.2.2.1 (X.2.2.2.2.1 _ fl_J0_1053) (fun _ h => h) dJ0_checkIndex_df160_2 ?_
  refine g_ci (wr := []) X [] [] (g_rS (As := [.int i, .int n, f]) (rest := []) X (c_checkIndexP l G i n f hf h0 hn _) lk_J0_1059 rfl rfl ⟨Nat.le_of_ble_eq_true rfl, Nat.le_of_ble_eq_true rfl⟩ hP hD hS [] rfl rfl rfl hl.1 rfl (Nat.le_of_ble_eq_true rfl) dJ0_checkIndex_df160_5 ⟨Nat.le_of_ble_eq_true rfl, Nat.le_of_ble_eq_true rfl⟩) hP hD hS rfl rfl rfl (by decide) (fun r u H locs h hP hD hS => ?_)
  refine lv_pop X.1 X.2.1 dJ0_checkIndex_df160_8 rfl ?_
  exact g_vret X () trivial hP hD hS dJ0_checkIndex_df160_9
set_option maxHeartbeats 4000000 in
set_option maxRecDepth 100000 in
theorem c_charAtL (l : Launch) (G : gEnv) (k : Nat) (hk : k < 8) (sz : Nat) : Met l yJ1_charAt_3b067 (Cond.code yJ1_charAt_3b067 cJ1_charAt_3b067 2 (some .char) :: wAll) rm_s2 (gPc G [.ref (G.2.2.2.2 0), .int (nI k)] [] sz) (gQi G (fun (r : Int32) (u : Unit) => r = jLet k) (fun _ => []) (va_A [] sz)) 0 0 (va_A [] sz) := by
  refine va_MetF (cc := cJ1_charAt_3b067) (maxL := 2) (ret := (some .char)) (by decide +kernel) rfl ?_
  intro p e s m args below meth c s₁ B hml hv
  obtain ⟨rfl, hsz, hP, hK, hD0⟩ := hv
  subst hsz
  have X := gX.ofB (ws := []) B hml hK hD0
  have hD := hD0.self (sz := s.heap.size)
  generalize hAe : va_A [] s.heap.size = A at X hD ⊢
  have hS : va_S A s.heap s.heap [] := va_S.rf
  have hl := lv_entry ([.ref (G.2.2.2.2 0), .int (nI k)]) (n := 2) (Nat.le_of_ble_eq_true rfl)
  rw [lg_entry_eq]
  generalize (lg_sl ([.ref (G.2.2.2.2 0), .int (nI k)]) ++ List.replicate (2 - (lg_sl ([.ref (G.2.2.2.2 0), .int (nI k)])).length) Slot.unset).toArray = ls at hl ⊢
  have hl : lv_has ls 2 [(0, .ref (G.2.2.2.2 0)), (1, .int (nI k))] := hl
  have hT := (X.k.2.2.2.1.2.2.1.1 0 (by decide)).2.2.2.narrow X.new
  refine lv_iload_n X.1 X.2.1 dJ1_charAt_3b067_0 rfl (lv_at hl 1 rfl) ?_
  refine lv_aload_n X.1 X.2.1 dJ1_charAt_3b067_1 rfl (lv_at hl 0 rfl) ?_
  refine va_tlen (A := A) (v := Int32.ofNat 8) X.1 X.2.1 hT hS rfl dJ1_charAt_3b067_2 ?_
  refine g_cv (wr := []) X [] [] (g_rS (As := [.int (nI k), .int (Int32.ofNat 8)]) (rest := []) X (c_checkIndexS l G (nI k) (Int32.ofNat 8) (nI_pos (by omega)) (nI_lt hk (by decide)) _) lk_J1_9 rfl rfl ⟨Nat.le_of_ble_eq_true rfl, Nat.le_of_ble_eq_true rfl⟩ hP hD hS [] rfl rfl rfl hl.1 rfl (Nat.le_of_ble_eq_true rfl) dJ1_charAt_3b067_3 ⟨Nat.le_of_ble_eq_true rfl, Nat.le_of_ble_eq_true rfl⟩) hP hD hS rfl rfl rfl (by decide) (fun u H locs h hP hD hS => ?_)
  refine lv_aload_n X.1 X.2.1 dJ1_charAt_3b067_6 rfl (lv_at hl 0 rfl) ?_
  refine lv_iload_n X.1 X.2.1 dJ1_charAt_3b067_7 rfl (lv_at hl 1 rfl) ?_
  refine va_tb (A := A) (v := .int (gLet.getD k 0)) X.1 X.2.1 hT hS (vp_in_nI hk (by decide)) (by rw [nI_clamp (by omega)]; rfl) dJ1_charAt_3b067_8 ?_
  refine lv_sipush (v := (255 : Int32)) X.1 X.2.1 dJ1_charAt_3b067_9 (by decide) ?_
  refine lv_iand X.1 X.2.1 dJ1_charAt_3b067_12 ?_
  refine lv_i2c (v := jLet k) X.1 X.2.1 dJ1_charAt_3b067_13 (jLet_c k hk) ?_
  exact g_nret X (jLet_n k hk) () rfl hP hD hS dJ1_charAt_3b067_14
set_option maxHeartbeats 4000000 in
set_option maxRecDepth 100000 in
theorem c_charAt (l : Launch) (G : gEnv) (k : Nat) (hk : k < 8) (sz : Nat) : Met l yJ0_charAt_5068e (Cond.code yJ0_charAt_5068e cJ0_charAt_5068e 2 (some .char) :: wAll) rm_s3 (gPc G [.ref (gA0 G), .int (nI k)] [] sz) (gQi G (fun (r : Int32) (u : Unit) => r = jLet k) (fun _ => []) (va_A [] sz)) 0 0 (va_A [] sz) := by
  refine va_MetF (cc := cJ0_charAt_5068e) (maxL := 2) (ret := (some .char)) (by decide +kernel) rfl ?_
  intro p e s m args below meth c s₁ B hml hv
  obtain ⟨rfl, hsz, hP, hK, hD0⟩ := hv
  subst hsz
  have X := gX.ofB (ws := []) B hml hK hD0
  have hD := hD0.self (sz := s.heap.size)
  generalize hAe : va_A [] s.heap.size = A at X hD ⊢
  have hS : va_S A s.heap s.heap [] := va_S.rf
  have hl := lv_entry ([.ref (gA0 G), .int (nI k)]) (n := 2) (Nat.le_of_ble_eq_true rfl)
  rw [lg_entry_eq]
  generalize (lg_sl ([.ref (gA0 G), .int (nI k)]) ++ List.replicate (2 - (lg_sl ([.ref (gA0 G), .int (nI k)])).length) Slot.unset).toArray = ls at hl ⊢
  have hl : lv_has ls 2 [(0, .ref (gA0 G)), (1, .int (nI k))] := hl
  refine lv_aload_n X.1 X.2.1 dJ0_charAt_5068e_0 rfl (lv_at hl 0 rfl) ?_
  refine g_ci (wr := []) X [] [] (g_rVr (As := []) (rest := []) X (c_isLatin1 l G _) lk_J0_492 rfl rfl ⟨Nat.le_of_ble_eq_true rfl, Nat.le_of_ble_eq_true rfl⟩ hP hD hS [] rfl rfl (vk_recv (A := A) (vk_S.narrow X.k.2.2.2.1.2.2.1 X.new) (i := 0) (by decide) hS) rfl hl.1 rfl (Nat.le_of_ble_eq_true rfl) dJ0_charAt_5068e_1 ⟨Nat.le_of_ble_eq_true rfl, Nat.le_of_ble_eq_true rfl⟩) hP hD hS rfl rfl rfl (by decide) (fun r u H locs h hP hD hS => ?_)
  have h : r = 1 := h
  refine lv_if_eq (tgt := 16) X.1 X.2.1 dJ0_charAt_5068e_4 (by decide) (fun hc => absurd (h.symm.trans hc) (by decide)) (fun hc => ?_)
  refine lv_aload_n X.1 X.2.1 dJ0_charAt_5068e_7 rfl (lv_at hl 0 rfl) ?_
  refine vk_getf X.1 X.2.1 ((X.k.2.2.2.1.2.2.1.1 0 (by decide)).2.2.1.narrow X.new) hS X.2.2.2.1 (X.2.2.2.2.1 _ fl_J0_9) (fun _ h => h) dJ0_charAt_5068e_8 ?_
  refine lv_iload_n X.1 X.2.1 dJ0_charAt_5068e_11 rfl (lv_at hl 1 rfl) ?_
  refine g_ci (wr := []) X [] [] (g_rS (As := [.ref (G.2.2.2.2 0), .int (nI k)]) (rest := []) X (c_charAtL l G k hk _) lk_J0_495 rfl rfl ⟨Nat.le_of_ble_eq_true rfl, Nat.le_of_ble_eq_true rfl⟩ hP hD hS [] rfl rfl rfl hl.1 rfl (Nat.le_of_ble_eq_true rfl) dJ0_charAt_5068e_12 ⟨Nat.le_of_ble_eq_true rfl, Nat.le_of_ble_eq_true rfl⟩) hP hD hS rfl rfl rfl (by decide) (fun r u H locs h hP hD hS => ?_)
  have h : r = jLet k := h
  rw [h]
  exact g_nret X (jLet_n k hk) () rfl hP hD hS dJ0_charAt_5068e_15
set_option maxHeartbeats 4000000 in
set_option maxRecDepth 100000 in
theorem c_length (l : Launch) (G : gEnv) (sz : Nat) : Met l yJ0_length_8abf5 (Cond.code yJ0_length_8abf5 cJ0_length_8abf5 1 (some .int) :: wAll) rm_s1 (gPc G [.ref (gA0 G)] [] sz) (gQi G (fun (r : Int32) (u : Unit) => r = 8) (fun _ => []) (va_A [] sz)) 0 0 (va_A [] sz) := by
  refine va_MetF (cc := cJ0_length_8abf5) (maxL := 1) (ret := (some .int)) (by decide +kernel) rfl ?_
  intro p e s m args below meth c s₁ B hml hv
  obtain ⟨rfl, hsz, hP, hK, hD0⟩ := hv
  subst hsz
  have X := gX.ofB (ws := []) B hml hK hD0
  have hD := hD0.self (sz := s.heap.size)
  generalize hAe : va_A [] s.heap.size = A at X hD ⊢
  have hS : va_S A s.heap s.heap [] := va_S.rf
  have hl := lv_entry ([.ref (gA0 G)]) (n := 1) (Nat.le_of_ble_eq_true rfl)
  rw [lg_entry_eq]
  generalize (lg_sl ([.ref (gA0 G)]) ++ List.replicate (1 - (lg_sl ([.ref (gA0 G)])).length) Slot.unset).toArray = ls at hl ⊢
  have hl : lv_has ls 1 [(0, .ref (gA0 G))] := hl
  refine lv_aload_n X.1 X.2.1 dJ0_length_8abf5_0 rfl (lv_at hl 0 rfl) ?_
  refine vk_getf X.1 X.2.1 ((X.k.2.2.2.1.2.2.1.1 0 (by decide)).2.2.1.narrow X.new) hS X.2.2.2.1 (X.2.2.2.2.1 _ fl_J0_9) (fun _ h => h) dJ0_length_8abf5_1 ?_
  refine va_tlen (A := A) (v := Int32.ofNat 8) X.1 X.2.1 ((X.k.2.2.2.1.2.2.1.1 0 (by decide)).2.2.2.narrow X.new) hS rfl dJ0_length_8abf5_4 ?_
  refine lv_aload_n X.1 X.2.1 dJ0_length_8abf5_5 rfl (lv_at hl 0 rfl) ?_
  refine g_ci (wr := []) X [] [] (g_rVr (As := []) (rest := [.int (Int32.ofNat 8)]) X (c_coder l G _) lk_J0_335 rfl rfl ⟨Nat.le_of_ble_eq_true rfl, Nat.le_of_ble_eq_true rfl⟩ hP hD hS [] rfl rfl (vk_recv (A := A) (vk_S.narrow X.k.2.2.2.1.2.2.1 X.new) (i := 0) (by decide) hS) rfl hl.1 rfl (Nat.le_of_ble_eq_true rfl) dJ0_length_8abf5_6 ⟨Nat.le_of_ble_eq_true rfl, Nat.le_of_ble_eq_true rfl⟩) hP hD hS rfl rfl rfl (by decide) (fun r u H locs h hP hD hS => ?_)
  have h : r = 0 := h
  rw [h]
  refine lv_ishr X.1 X.2.1 dJ0_length_8abf5_9 ?_
  exact g_iret X () (by decide) hP hD hS dJ0_length_8abf5_10
theorem c_charAtZ (l : Launch) (G : gEnv) (z : Int32) (hz : vp_in z 8) (sz : Nat) : Met l yJ0_charAt_5068e (Cond.code yJ0_charAt_5068e cJ0_charAt_5068e 2 (some .char) :: wAll) rm_s3 (gPc G [.ref (gA0 G), .int z] [] sz) (gQi G (fun (r : Int32) (u : Unit) => r = jLet z.toNatClampNeg) (fun _ => []) (va_A [] sz)) 0 0 (va_A [] sz) := by
  obtain ⟨k, hk, rfl⟩ := vp_in_of hz (by decide)
  have h := c_charAt l G k hk sz
  rw [nI_clamp (by omega)]
  exact h
