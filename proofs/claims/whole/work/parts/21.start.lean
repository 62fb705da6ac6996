theorem st_nest : ∀ q ∈ gNest, Cond.methodLinkNest q.1 q.2.1 q.2.2.1 q.2.2.2 ∈ lw_tbl := by decide +kernel
theorem st_decl : ∀ y ∈ gDecl, Cond.declares y ∈ lw_tbl := by decide +kernel
theorem st_cast : ∀ q ∈ gCast, Cond.castable q.1 q.2 ∈ lw_tbl := by decide +kernel
theorem st_s0 : Cond.stringRef "PushBoards$Log" 36 "rdluRDLU" ∈ lw_tbl := List.mem_append_right _ (List.mem_of_getElem? (i := 389) (by decide +kernel))
theorem st_s1 : Cond.stringRef "PushBoards" 100 "there is no board" ∈ lw_tbl := List.mem_append_right _ (List.mem_of_getElem? (i := 623) (by decide +kernel))
theorem st_s2 : Cond.stringRef "PushBoards" 107 "there is no such way" ∈ lw_tbl := List.mem_append_right _ (List.mem_of_getElem? (i := 660) (by decide +kernel))
theorem st_s3 : Cond.stringRef "PushBoards" 229 "there is no such cell" ∈ lw_tbl := List.mem_append_right _ (List.mem_of_getElem? (i := 681) (by decide +kernel))
theorem st_z0 : Cond.laysStatic "java/lang/String" "COMPACT_STRINGS" "Z" ∈ lw_tbl := List.mem_append_right _ (List.mem_of_getElem? (i := 399) (by decide +kernel))
theorem st_i0 : Cond.initialized "java/lang/String" ∈ lw_tbl := List.mem_append_right _ (List.mem_of_getElem? (i := 16) (by decide +kernel))
theorem st_z1 : Cond.laysStatic Bundle.tN "UNASSIGNED_STACK" Bundle.steD ∈ lw_tbl := List.mem_append_right _ (List.mem_of_getElem? (i := 610) (by decide +kernel))
theorem st_z2 : Cond.laysStatic Bundle.tN "SUPPRESSED_SENTINEL" Bundle.listD ∈ lw_tbl := List.mem_append_right _ (List.mem_of_getElem? (i := 612) (by decide +kernel))
theorem st_i1 : Cond.initialized Bundle.tN ∈ lw_tbl := List.mem_append_right _ (List.mem_of_getElem? (i := 10) (by decide +kernel))
theorem st_z3 : Cond.laysStatic "jdk/internal/util/Preconditions" "SIOOBE_FORMATTER" "Ljava/util/function/BiFunction;" ∈ lw_tbl := List.mem_append_right _ (List.mem_of_getElem? (i := 415) (by decide +kernel))
theorem st_i3 : Cond.initialized "jdk/internal/util/Preconditions" ∈ lw_tbl := List.mem_append_right _ (List.mem_of_getElem? (i := 18) (by decide +kernel))
theorem st_all {b : Nat} {s : State} (hts : ∀ w ∈ lw_tbl, w.before #[Value.ref b] s = true) : ∀ w ∈ wAll, w.before #[Value.ref b] s = true := fun w h => hts w (List.mem_filter.mp h).1
theorem st_arr {b : Nat} {s : State} {ty : FieldType} (hty : ∀ C, ty ≠ .object C) (h : (Cond.arrayClass ty).before #[Value.ref b] s = true) : ∃ cA : ClassId, ArrOfT s cA ty ∧ va_RA s cA ty := by
  obtain ⟨cA, kA, comp, h1, h2, h3⟩ := Cond.arrayClass_spec h
  refine ⟨cA, fun n z => ⟨fun k h => (by cases h), kA, h2, comp, h3⟩, ?_⟩
  cases ty with
  | object C => exact absurd rfl (hty C)
  | _ => exact h1
set_option maxRecDepth 100000 in
set_option maxHeartbeats 4000000 in
theorem g_start {p : Program} {s : State} {m : MethodId} {meth : Method} {c : Code} {b L : Nat} {xs : Nat → Int32} (C0 : lw_At p s m meth c b L xs) : ∃ G : gEnv, gX p m meth c cL_law 7 RL (some .boolean) s #[Value.ref b] G (fun q : Nat => s.heap.size ≤ q) := by
  obtain ⟨hx, hb, hr, hml, hown, hts0, hX, hbl, hlocks, hgv⟩ := C0
  have hts := st_all hts0
  have hs := flat_of_before _ hgv
  have hA : ∀ a : Nat, a < s.heap.size → ¬ (fun q : Nat => s.heap.size ≤ q) a := fun a h => Nat.not_le.mpr h
  obtain ⟨c0, i0, hK0⟩ := u_known (C := RX0) (T := TX0) (N := 10) (n := 10) hts inX0 (hts (.instantiable RX0 10) (inC1 69 rfl rfl))
  obtain ⟨c1, i1, hK1⟩ := u_known (C := RX1) (T := TX1) (N := 5) (n := 5) hts inX1 (hts (.instantiable RX1 5) (inC1 117 rfl rfl))
  obtain ⟨c2, i2, hK2⟩ := u_known (C := RX2) (T := TX2) (N := 7) (n := 7) hts inX2 (hts (.instantiable RX2 7) (inC1 142 rfl rfl))
  obtain ⟨c3, i3, hK3⟩ := u_known (C := RX3) (T := TX3) (N := 8) (n := 8) hts inX3 (hts (.instantiable RX3 8) (inC1 31 rfl rfl))
  obtain ⟨c4, i4, hK4⟩ := u_known (C := RX4) (T := TX4) (N := 9) (n := 9) hts inX4 (hts (.instantiable RX4 9) (inC1 171 rfl rfl))
  obtain ⟨c5, i5, hK5⟩ := u_known (C := RX5) (T := TX5) (N := 7) (n := 7) hts inX5 (hts (.instantiable RX5 7) (inC1 23 rfl rfl))
  obtain ⟨c6, i6, hK6⟩ := u_known (C := RX6) (T := TX6) (N := 30) (n := 30) hts inX6 (hts (.instantiable RX6 30) (inC3 223 rfl rfl))
  obtain ⟨cI, hI⟩ := st_arr (ty := .int) (fun C h => by cases h) (hts _ wa_I)
  obtain ⟨cJ, hJ⟩ := st_arr (ty := .long) (fun C h => by cases h) (hts _ wa_J)
  obtain ⟨cZ, hZ⟩ := st_arr (ty := .boolean) (fun C h => by cases h) (hts _ wa_Z)
  obtain ⟨adK, adV, hSS, hSe⟩ := vk_Sof (args := #[Value.ref b]) (s := s) (N := 1) (tm := fun _ => Term.string "PushBoards$Log" 36) (len := [8]) (byt := [gLet]) (A := fun q : Nat => s.heap.size ≤ q) (by intro i hi; rw [show i = 0 by omega]; decide) (fun i hi => hs _ (by decide +kernel)) (fun i hi => hs _ (by decide +kernel)) (fun i hi => hs _ (by decide +kernel)) (by intro i hi; rw [show i = 0 by omega]; exact hs _ (by decide +kernel))
    (by
      intro i hi j hj
      rw [show i = 0 by omega] at hj ⊢
      have hj : j < 8 := hj
      rcases (show j = 0 ∨ j = 1 ∨ j = 2 ∨ j = 3 ∨ j = 4 ∨ j = 5 ∨ j = 6 ∨ j = 7 by omega) with rfl | rfl | rfl | rfl | rfl | rfl | rfl | rfl <;> exact hs _ (by decide +kernel)) (fun i j hi hj h => absurd (show i = j by omega) h) hA
  obtain ⟨a1, -, -, -, hE1, -⟩ := Cond.exactly_spec (args := #[Value.ref b]) (first := s) (o := none) (s := s) (idx := []) (t := Term.string "PushBoards" 100) (cls := "java/lang/String") (hs _ (by decide +kernel))
  obtain ⟨a2, -, -, -, hE2, -⟩ := Cond.exactly_spec (args := #[Value.ref b]) (first := s) (o := none) (s := s) (idx := []) (t := Term.string "PushBoards" 107) (cls := "java/lang/String") (hs _ (by decide +kernel))
  obtain ⟨a3, -, -, -, hE3, -⟩ := Cond.exactly_spec (args := #[Value.ref b]) (first := s) (o := none) (s := s) (idx := []) (t := Term.string "PushBoards" 229) (cls := "java/lang/String") (hs _ (by decide +kernel))
  refine ⟨((fun k => if k = 0 then c0 else if k = 1 then c1 else if k = 2 then c2 else if k = 3 then c3 else if k = 4 then c4 else if k = 5 then c5 else c6, fun k => if k = 0 then i0 else if k = 1 then i1 else if k = 2 then i2 else if k = 3 then i3 else if k = 4 then i4 else if k = 5 then i5 else i6), (cI, cJ, cZ), s.heap.size, fun k => if k = 0 then adK 0 else if k = 1 then a1 else if k = 2 then a2 else a3, adV), hx, hb, hml, hown, hts, hr, ⟨⟨?_, ?_⟩, ?_, ?_, ?_, ?_⟩, fun q h => h, fun q h => h, hlocks⟩
  · intro k q hq
    match k, hq with
    | 0, hq => cases hq; exact hK0
    | 1, hq => cases hq; exact hK1
    | 2, hq => cases hq; exact hK2
    | 3, hq => cases hq; exact hK3
    | 4, hq => cases hq; exact hK4
    | 5, hq => cases hq; exact hK5
    | 6, hq => cases hq; exact hK6
    | k + 7, hq => simp [gCl] at hq
  · intro k q hq
    match k, hq with
    | 0, hq => cases hq; exact hI
    | 1, hq => cases hq; exact hJ
    | 2, hq => cases hq; exact hZ
    | k + 3, hq => simp [gTy] at hq
  · intro q hq
    exact va_Nw.of rfl (hts0 _ (st_nest q hq))
  · intro k q hq
    match k, hq with
    | 0, hq => cases hq; exact vk_R.of (hts0 _ st_s0) (hSe 0 (by decide))
    | 1, hq => cases hq; exact vk_R.of (hts0 _ st_s1) hE1
    | 2, hq => cases hq; exact vk_R.of (hts0 _ st_s2) hE2
    | 3, hq => cases hq; exact vk_R.of (hts0 _ st_s3) hE3
    | k + 4, hq => simp [gStr] at hq
  · refine ⟨Nat.le_refl _, va_Zof (hts0 _ st_z0) (hts0 _ st_i0) (va_eqt (hs _ (by decide +kernel))) hA, ⟨fun i hi => ?_, fun i j hi hj _ => by omega⟩, vx_Zqof (hts0 _ st_z1) (hts0 _ st_i1) (hs _ (by decide +kernel)) hA, vx_Zqof (hts0 _ st_z2) (hts0 _ st_i1) (hs _ (by decide +kernel)) hA, va_Zqof (hts0 _ st_z3) (hts0 _ st_i3) (hs _ (by decide +kernel)) hA⟩
    rw [show i = 0 by omega]
    exact hSS.1 0 (by decide)
  · exact ⟨fun y hy => va_Nw.of rfl (hts0 _ (st_decl y hy)), fun q hq => va_Nw.of rfl (hts0 _ (st_cast q hq)), va_Nc.of (hs _ (by decide +kernel))⟩
