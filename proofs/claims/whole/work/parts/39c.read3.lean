theorem look_145 {sz : Int32} {tm : Nat → Int32} {i x y wd : Nat} {wl gl bx : Int64} {pe : Option Nat} {u : Int32} {k31 : Int64 → Int64 → Int64 → Int32 → Int32 → Int32 → Int32 → Int32 → Prop} {post : Int32 → Int64 → Int64 → Int64 → Int32 → Int32 → Prop} (hx : x ≤ 8) (hy : y < 8) (hwd : wd ≤ 8) (cg : cnt gl ≤ 12) (cb : cnt bx ≤ 12) (hpe : ∀ p, pe = some p → p < 64)
    (h0 : (decide (x = 8) || !okQ u || (wQ u && pe.isSome) || (gQ u && decide (cnt gl = 12)) || (bQ u && decide (cnt bx = 12))) = true → ∀ n1 n2 n3 n4 n5, post (nI i) n1 n2 n3 n4 n5)
    (h1 : (decide (x = 8) || !okQ u || (wQ u && pe.isSome) || (gQ u && decide (cnt gl = 12)) || (bQ u && decide (cnt bx = 12))) = false → k31 (if u = 35 then wl ||| bit (8 * y + x) else wl) (if gQ u = true then gl ||| bit (8 * y + x) else gl) (if bQ u = true then bx ||| bit (8 * y + x) else bx) (peI (if wQ u = true then some (8 * y + x) else pe)) (nI (max wd (x + 1))) (nI (x + 1)) (nI y) (nI (i + 1))) :
    MO_look_145 sz tm k31 post wl gl bx (peI pe) (nI wd) (nI x) (nI y) (nI i) u (b01 (gQ u)) (b01 (bQ u)) (b01 (wQ u)) := by
  have go : okQ u = true → MO_look_185 sz tm k31 post wl gl bx (peI pe) (nI wd) (nI x) (nI y) (nI i) u (b01 (gQ u)) (b01 (bQ u)) (b01 (wQ u)) := fun ho => by
    refine look_185 hx hy hwd cg cb hpe (fun q => h0 ?_) (fun q => h1 ?_)
    · rw [ho]; simpa using q
    · rw [ho]; simpa using q
  unfold MO_look_145
  cases eg : gQ u with
  | true => rw [if_neg b01T, ← eg]; exact go (by unfold okQ; rw [eg]; rfl)
  | false =>
    rw [if_pos b01F]
    cases eb : bQ u with
    | true => rw [if_neg b01T, ← eg, ← eb]; exact go (by unfold okQ; rw [eb]; simp)
    | false =>
      rw [if_pos b01F]
      cases ew : wQ u with
      | true => rw [if_neg b01T, ← eg]; rw [eg, ← ew]; have := go (by unfold okQ; rw [ew]; simp); rw [eg, eb] at this; exact this
      | false =>
        rw [if_pos b01F]
        rw [eg, eb, ew] at go
        by_cases e1 : u = 35
        · rw [if_pos e1]; exact go (by unfold okQ; rw [decide_eq_true e1]; simp)
        rw [if_neg e1]
        by_cases e2 : u = 32
        · rw [if_pos e2]; exact go (by unfold okQ; rw [decide_eq_true e2]; simp)
        rw [if_neg e2]
        by_cases e3 : u = 95
        · rw [if_pos e3]; exact go (by unfold okQ; rw [decide_eq_true e3]; simp)
        rw [if_neg e3]
        refine h0 ?_ _ _ _ _ _
        have : okQ u = false := by unfold okQ; rw [eg, eb, ew, decide_eq_false e1, decide_eq_false e2, decide_eq_false e3]; rfl
        rw [this]; simp
theorem look_103 {sz : Int32} {tm : Nat → Int32} {i x y wd : Nat} {wl gl bx : Int64} {pe : Option Nat} {u : Int32} {k31 : Int64 → Int64 → Int64 → Int32 → Int32 → Int32 → Int32 → Int32 → Prop} {post : Int32 → Int64 → Int64 → Int64 → Int32 → Int32 → Prop} (hx : x ≤ 8) (hy : y < 8) (hwd : wd ≤ 8) (cg : cnt gl ≤ 12) (cb : cnt bx ≤ 12) (hpe : ∀ p, pe = some p → p < 64)
    (h0 : (decide (x = 8) || !okQ u || (wQ u && pe.isSome) || (gQ u && decide (cnt gl = 12)) || (bQ u && decide (cnt bx = 12))) = true → ∀ n1 n2 n3 n4 n5, post (nI i) n1 n2 n3 n4 n5)
    (h1 : (decide (x = 8) || !okQ u || (wQ u && pe.isSome) || (gQ u && decide (cnt gl = 12)) || (bQ u && decide (cnt bx = 12))) = false → k31 (if u = 35 then wl ||| bit (8 * y + x) else wl) (if gQ u = true then gl ||| bit (8 * y + x) else gl) (if bQ u = true then bx ||| bit (8 * y + x) else bx) (peI (if wQ u = true then some (8 * y + x) else pe)) (nI (max wd (x + 1))) (nI (x + 1)) (nI y) (nI (i + 1))) :
    MO_look_103 sz tm k31 post wl gl bx (peI pe) (nI wd) (nI x) (nI y) (nI i) u (b01 (gQ u)) := by
  have s145 := look_145 (sz := sz) (tm := tm) hx hy hwd cg cb hpe h0 h1
  have s124 : MO_look_124 sz tm k31 post wl gl bx (peI pe) (nI wd) (nI x) (nI y) (nI i) u (b01 (gQ u)) (b01 (bQ u)) := by
    unfold MO_look_124
    by_cases e1 : u = 64
    · rw [if_pos e1]
      rw [show wQ u = true by unfold wQ; rw [decide_eq_true e1]; rfl] at s145
      exact s145
    rw [if_neg e1]
    by_cases e2 : u = 43
    · rw [if_pos e2]
      rw [show wQ u = true by unfold wQ; rw [decide_eq_true e2]; simp] at s145
      exact s145
    rw [if_neg e2]
    rw [show wQ u = false by unfold wQ; rw [decide_eq_false e1, decide_eq_false e2]; rfl] at s145
    exact s145
  unfold MO_look_103
  by_cases e1 : u = 36
  · rw [if_pos e1]
    rw [show bQ u = true by unfold bQ; rw [decide_eq_true e1]; rfl] at s124
    exact s124
  rw [if_neg e1]
  by_cases e2 : u = 42
  · rw [if_pos e2]
    rw [show bQ u = true by unfold bQ; rw [decide_eq_true e2]; simp] at s124
    exact s124
  rw [if_neg e2]
  rw [show bQ u = false by unfold bQ; rw [decide_eq_false e1, decide_eq_false e2]; rfl] at s124
  exact s124
theorem look_31 {tx : Nat → Int32} {L : Nat} {post : Int32 → Int64 → Int64 → Int64 → Int32 → Int32 → Prop} (hL : L ≤ 160)
    (hA : ∀ p, lkB tx L 0 st0 = some p → p < L → ∀ n1 n2 n3 n4 n5, post (nI p) n1 n2 n3 n4 n5)
    (hB : lkB tx L 0 st0 = none → ∀ x y wd ht wl gl bx pe, lkE tx L 0 st0 = (x, y, wd, ht, wl, gl, bx, pe) → RI tx L x y wd ht wl gl bx pe → ht ≤ 8 → post (-1) wl gl bx (peI pe) (nI wd)) :
    ∀ n i x y wd ht wl gl bx pe, i ≤ L → L - i < n → RI tx i x y wd ht wl gl bx pe → ht ≤ 8 → lkB tx (L - i) i (x, y, wd, ht, wl, gl, bx, pe) = lkB tx L 0 st0 → lkE tx (L - i) i (x, y, wd, ht, wl, gl, bx, pe) = lkE tx L 0 st0 → MO_look_31 (nI L) tx post n wl gl bx (peI pe) (nI wd) (nI x) (nI y) (nI i) := by
  intro n
  induction n with
  | zero => intro i _ _ _ _ _ _ _ _ _ h; exact absurd h (Nat.not_lt_zero _)
  | succ n ih =>
    intro i x y wd ht wl gl bx pe hi hn hI hht eB eE
    unfold MO_look_31
    by_cases q : L ≤ i
    · have ei : i = L := by omega
      subst ei
      rw [if_pos (nI_le q (by omega))]
      rw [Nat.sub_self] at eB eE
      exact hB eB.symm x y wd ht wl gl bx pe eE.symm hI hht
    · rw [if_neg (nI_ge (by omega) (by omega))]
      refine ⟨vp_inN (by omega) (by decide), fun u eu => ?_⟩
      rw [nI_clamp (by omega)] at eu
      have es : L - i = (L - (i + 1)) + 1 := by omega
      rw [es] at eB eE
      have eB : (if badR (tx i) x y gl bx pe = true then some i else lkB tx (L - (i + 1)) (i + 1) (putR (tx i) x y wd ht wl gl bx pe)) = lkB tx L 0 st0 := eB
      have eE : lkE tx (L - (i + 1)) (i + 1) (putR (tx i) x y wd ht wl gl bx pe) = lkE tx L 0 st0 := eE
      rw [← eu] at eB eE
      have hI2 := hI
      obtain ⟨r1, r2, r3, r4, r5, r6, r7, r8, r9, r10, r11, r12, r13⟩ := hI2
      have bad : badR u x y gl bx pe = true → ∀ n1 n2 n3 n4 n5, post (nI i) n1 n2 n3 n4 n5 := fun hb => by
        rw [if_pos hb] at eB
        exact hA i eB.symm (by omega)
      have good : badR u x y gl bx pe = false → ∀ x' y' wd' ht' wl' gl' bx' pe', putR u x y wd ht wl gl bx pe = (x', y', wd', ht', wl', gl', bx', pe') → MO_look_31 (nI L) tx post n wl' gl' bx' (peI pe') (nI wd') (nI x') (nI y') (nI (i + 1)) := fun hb x' y' wd' ht' wl' gl' bx' pe' ep => by
        rw [if_neg (by rw [hb]; decide), ep] at eB
        rw [ep] at eE
        rw [eu] at hb ep
        obtain ⟨x2, y2, wd2, ht2, wl2, gl2, bx2, pe2, e1, hI'⟩ := RI_step hI hb
        rw [ep] at e1
        cases e1
        refine ih (i + 1) x' y' wd' ht' wl' gl' bx' pe' (by omega) (by omega) hI' ?_ eB eE
        obtain ⟨-, h2, -, -, -, h6, -⟩ := hI'
        rw [if_neg (by omega), show i + 1 - 1 = i from rfl, ← r5] at h6
        unfold badR at hb
        rw [Bool.or_eq_false_iff] at hb
        have := of_decide_eq_false hb.1
        omega
      by_cases ey : y = 8
      · rw [if_pos (by rw [ey]; rfl)]; exact bad (by unfold badR; rw [decide_eq_true ey]; rfl) _ _ _ _ _
      rw [if_neg (neK (k := 8) ey (by omega) (by decide))]
      have eol : isE u = true → MO_look_69 (nI L) tx (fun mo_newFloor' mo_newGoals' mo_newBoxes' mo_newPerson' mo_newWidth' v1' v2' v3' => MO_look_31 (nI L) tx post n mo_newFloor' mo_newGoals' mo_newBoxes' mo_newPerson' mo_newWidth' v1' v2' v3') post wl gl bx (peI pe) (nI wd) (nI y) (nI i) := fun e => by
        unfold MO_look_69
        rw [nI_1, nI_1]
        exact good (by unfold badR; rw [decide_eq_false ey, e]; rfl) 0 (y + 1) wd (y + 1) wl gl bx pe (by unfold putR; rw [if_pos e])
      by_cases e1 : u = 10
      · rw [if_pos e1]; exact eol (by rw [e1]; decide)
      rw [if_neg e1]
      by_cases e2 : u = 124
      · rw [if_pos e2]; exact eol (by rw [e2]; decide)
      rw [if_neg e2]
      have eE : isE u = false := by unfold isE; rw [decide_eq_false e1, decide_eq_false e2]; rfl
      have s103 := look_103 (sz := nI L) (tm := tx) (u := u) (k31 := fun mo_newFloor' mo_newGoals' mo_newBoxes' mo_newPerson' mo_newWidth' v1' v2' v3' => MO_look_31 (nI L) tx post n mo_newFloor' mo_newGoals' mo_newBoxes' mo_newPerson' mo_newWidth' v1' v2' v3') (post := post) (i := i) (wl := wl) r1 (show y < 8 by omega) r3 r11 r12 (fun p hp => (r10 p hp).2.1) (fun q => bad (by unfold badR; rw [decide_eq_false ey, eE]; simpa using q)) (fun q => good (by unfold badR; rw [decide_eq_false ey, eE]; simpa using q) (x + 1) y (max wd (x + 1)) (y + 1) _ _ _ _ (by unfold putR; rw [if_neg (by rw [eE]; decide)]))
      by_cases e3 : u = 46
      · rw [if_pos e3]
        rw [show gQ u = true by unfold gQ; rw [decide_eq_true e3]; rfl] at s103
        exact s103
      rw [if_neg e3]
      by_cases e4 : u = 42
      · rw [if_pos e4]
        rw [show gQ u = true by unfold gQ; rw [decide_eq_true e4]; simp] at s103
        exact s103
      rw [if_neg e4]
      by_cases e5 : u = 43
      · rw [if_pos e5]
        rw [show gQ u = true by unfold gQ; rw [decide_eq_true e5]; simp] at s103
        exact s103
      rw [if_neg e5]
      rw [show gQ u = false by unfold gQ; rw [decide_eq_false e3, decide_eq_false e4, decide_eq_false e5]; rfl] at s103
      exact s103
theorem MO_read_152_spec {tx : Nat → Int32} {W H y : Nat} {m1 m2 m3 m4 m5 m6 : Int32} {m7 m8 : Int64} {wl ng nb : Int64} {np nw kp : Int32} {k141 : Int32 → Int32 → Int32 → Int32 → Int32 → Int32 → Int32 → Int32 → Int64 → Int64 → Int64 → Int64 → Int64 → Int64 → Int32 → Int32 → Int32 → Int32 → Prop} {post : Int32 → Int32 → Int32 → Int32 → Int32 → Int32 → Int32 → Int32 → Int32 → Int64 → Int64 → Int64 → Int64 → Int64 → Int64 → Int32 → Int32 → Int32 → Prop} (hW : W ≤ 8) (hy : y < 8)
    (hk : ∀ X, recOK W y W wl X → k141 m1 m2 m3 (nI W) (nI H) m4 m5 m6 X m7 m8 wl ng nb np nw kp (nI (y + 1))) :
    ∀ n x X, x ≤ W → W - x < n → recOK W y x wl X → MO_read_152 tx k141 post n m1 m2 m3 (nI W) (nI H) m4 m5 m6 X m7 m8 wl ng nb np nw kp (nI y) (nI x) := by
  intro n
  induction n with
  | zero => intro x X _ h; exact absurd h (Nat.not_lt_zero _)
  | succ n ih =>
    intro x X hx hn hX
    unfold MO_read_152
    by_cases q : W ≤ x
    · rw [if_pos (nI_le q (by omega)), nI_1]
      rw [show x = W by omega] at hX
      exact hk X hX
    · rw [if_neg (nI_ge (by omega) (by omega)), show (8 : Int32) = nI 8 from rfl, pk_mul, nI_add, nI_1]
      refine MO_has_spec (by omega) ?_
      cases e : tb wl (8 * y + x) with
      | true => rw [if_neg b01T]; exact ih (x + 1) X (by omega) (by omega) (hX.skip (by omega) e)
      | false =>
        rw [if_pos b01F]
        intro z ez
        rw [ez]
        exact ih (x + 1) _ (by omega) (by omega) (hX.bit hy (by omega) (by omega) e)
theorem MO_read_141_spec {tx : Nat → Int32} {W H : Nat} {m1 m2 m3 m4 m5 m6 : Int32} {m7 m8 : Int64} {wl ng nb : Int64} {np nw kp : Int32} {post : Int32 → Int32 → Int32 → Int32 → Int32 → Int32 → Int32 → Int32 → Int32 → Int64 → Int64 → Int64 → Int64 → Int64 → Int64 → Int32 → Int32 → Int32 → Prop} (hW : W ≤ 8) (hH : H ≤ 8)
    (hk : ∀ F, flOK W H wl F → post (nI (cnt nb)) m1 m2 m3 (nI W) (nI H) np 0 0 F ng nb wl ng nb np nw 0) :
    ∀ n y X, y ≤ H → H - y < n → recOK W y 0 wl X → MO_read_141 tx post n m1 m2 m3 (nI W) (nI H) m4 m5 m6 X m7 m8 wl ng nb np nw kp (nI y) := by
  intro n
  induction n with
  | zero => intro x X _ h; exact absurd h (Nat.not_lt_zero _)
  | succ n ih =>
    intro y X hy hn hX
    unfold MO_read_141
    by_cases q : H ≤ y
    · rw [if_pos (nI_le q (by omega))]
      rw [show y = H by omega] at hX
      exact MO_countOf_spec (hk X hX.fin)
    · rw [if_neg (nI_ge (by omega) (by omega))]
      exact ⟨W + 1, MO_read_152_spec hW (by omega) (fun Y h => ih (y + 1) Y (by omega) (by omega) h.row) (W + 1) 0 X (Nat.zero_le _) (by omega) hX⟩
def rcF (tx : Nat → Int32) (L i : Nat) : Nat := if i < L then rowsF tx i else if L = 0 then 0 else rowsF tx (L - 1) + 1
theorem rcF_s {tx : Nat → Int32} {L i : Nat} (h : i < L) : rcF tx L (i + 1) = rcF tx L i + if isE (tx i) = true ∨ i + 1 = L then 1 else 0 := by
  unfold rcF
  rw [if_pos h]
  by_cases e : i + 1 < L
  · rw [if_pos e]
    show rowsF tx i + _ = _
    by_cases q : isE (tx i) = true
    · rw [if_pos q, if_pos (Or.inl q)]
    · rw [if_neg q, if_neg (fun h => h.elim q (by omega))]
  · rw [if_neg e, if_neg (by omega), if_pos (Or.inr (by omega)), show L - 1 = i by omega]
theorem MO_read_14_spec {tx : Nat → Int32} {L : Nat} {v1 : Int32} {m1 m3 m4 m5 m6 m7 m8 : Int32} {m9 m10 m11 : Int64} {wl ng nb : Int64} {np nw kp : Int32} {post : Int32 → Int32 → Int32 → Int32 → Int32 → Int32 → Int32 → Int32 → Int32 → Int64 → Int64 → Int64 → Int64 → Int64 → Int64 → Int32 → Int32 → Int32 → Prop} (hL : L ≤ 160)
    (hk : MO_read_14 tx post 1 m1 (nI L) m3 m4 m5 m6 m7 m8 m9 m10 m11 wl ng nb np nw kp v1 (nI (rcF tx L L)) (nI L)) :
    ∀ n i, i ≤ L → L - i < n → MO_read_14 tx post n m1 (nI L) m3 m4 m5 m6 m7 m8 m9 m10 m11 wl ng nb np nw kp v1 (nI (rcF tx L i)) (nI i) := by
  intro n
  induction n with
  | zero => intro i _ h; exact absurd h (Nat.not_lt_zero _)
  | succ n ih =>
    intro i hi hn
    unfold MO_read_14
    by_cases q : L ≤ i
    · have ei : i = L := by omega
      subst ei
      unfold MO_read_14 at hk
      rw [if_pos (nI_le q (by omega))] at hk ⊢
      exact hk
    · rw [if_neg (nI_ge (by omega) (by omega))]
      have hs := rcF_s (tx := tx) (L := L) (i := i) (by omega)
      have one : isE (tx i) = true ∨ i + 1 = L → ∀ z, z = nI (rcF tx L i) + 1 → MO_read_14 tx post n m1 (nI L) m3 m4 m5 m6 m7 m8 m9 m10 m11 wl ng nb np nw kp v1 z (nI i + 1) := fun e z ez => by
        rw [if_pos e] at hs
        rw [ez, nI_1, nI_1, ← hs]
        exact ih (i + 1) (by omega) (by omega)
      refine ⟨vp_inN (by omega) (by decide), ?_⟩
      rw [nI_clamp (by omega)]
      by_cases e1 : tx i = 10
      · rw [if_pos e1]; exact one (Or.inl (by rw [e1]; decide))
      rw [if_neg e1]
      refine ⟨vp_inN (by omega) (by decide), ?_⟩
      by_cases e2 : tx i = 124
      · rw [if_pos e2]; exact one (Or.inl (by rw [e2]; decide))
      rw [if_neg e2, show (1 : Int32) = nI 1 from rfl, pk_sub (by omega)]
      by_cases e3 : i + 1 = L
      · rw [if_pos (by rw [← e3]; rfl)]; exact one (Or.inr e3)
      rw [if_neg (fun h => by rw [nI_eq (by omega) (by omega)] at h; omega)]
      intro z ez
      rw [ez, show nI (rcF tx L i) + (0 : Int32) = nI (rcF tx L i) by rw [show (0 : Int32) = nI 0 from rfl, nI_add]; rfl, nI_1]
      have eE : isE (tx i) = false := by unfold isE; rw [decide_eq_false e1, decide_eq_false e2]; rfl
      rw [if_neg (by rintro (h | h); rw [eE] at h; cases h; exact e3 h)] at hs
      have := ih (i + 1) (by omega) (by omega)
      rw [hs] at this
      exact this
theorem MO_read_spec {tx : Nat → Int32} {L : Nat} {m1 m3 m4 m5 m6 m7 m8 : Int32} {m9 m10 m11 m12 m13 m14 : Int64} {m15 m16 kp : Int32} {post : Int32 → Int32 → Int32 → Int32 → Int32 → Int32 → Int32 → Int32 → Int32 → Int64 → Int64 → Int64 → Int64 → Int64 → Int64 → Int32 → Int32 → Int32 → Prop} (hL : L ≤ 160)
    (hA : ∀ p, lkB tx L 0 st0 = some p → p < L → ∀ n1 n2 n3 n4 n5, post ((-1 : Int32) - nI p) 0 0 m3 m4 m5 m6 m7 m8 m9 m10 m11 n1 n2 n3 n4 n5 kp)
    (hB : lkB tx L 0 st0 = none → ∀ x y wd ht wl gl bx pe, lkE tx L 0 st0 = (x, y, wd, ht, wl, gl, bx, pe) → (pe = none ∨ cnt bx < cnt gl) → ∀ n1 n2 n3 n4 n5, post (-200) 0 0 m3 m4 m5 m6 m7 m8 m9 m10 m11 n1 n2 n3 n4 n5 kp)
    (hC : lkB tx L 0 st0 = none → ∀ x y wd ht wl gl bx p F, lkE tx L 0 st0 = (x, y, wd, ht, wl, gl, bx, some p) → cnt gl ≤ cnt bx → RI tx L x y wd ht wl gl bx (some p) → ht ≤ 8 → flOK wd ht wl F → ∀ n1 n2 n3 n4 n5, post (nI (cnt bx)) 0 0 1 (nI wd) (nI ht) (nI p) 0 0 F gl bx n1 n2 n3 n4 n5 0) :
    MO_read tx m1 (nI L) m3 m4 m5 m6 m7 m8 m9 m10 m11 m12 m13 m14 m15 m16 kp post := by
  refine ⟨L + 1, look_31 hL (fun p e hp n1 n2 n3 n4 n5 => ?_) (fun e x y wd ht wl gl bx pe eE hI hht => ?_) (L + 1) 0 0 0 0 0 0 0 0 none (Nat.zero_le _) (by omega) (RI_0 tx) (Nat.zero_le _) rfl rfl⟩
  · have h0 : rcF tx L 0 = 0 := by unfold rcF; rw [if_pos (by omega)]; rfl
    have := MO_read_14_spec (tx := tx) (L := L) (v1 := nI p) (m1 := 0) (m3 := m3) (m4 := m4) (m5 := m5) (m6 := m6) (m7 := m7) (m8 := m8) (m9 := m9) (m10 := m10) (m11 := m11) (wl := n1) (ng := n2) (nb := n3) (np := n4) (nw := n5) (kp := kp) (post := post) hL (by
      unfold MO_read_14
      rw [if_pos (nI_le (Nat.le_refl _) (by omega)), if_neg (nI_pos (by omega))]
      exact hA p e hp n1 n2 n3 n4 n5) (L + 1) 0 (Nat.zero_le _) (by omega)
    rw [h0] at this
    exact ⟨L + 1, this⟩
  · have h0 : rcF tx L 0 = 0 := by
      unfold rcF
      by_cases q : 0 < L
      · rw [if_pos q]; rfl
      · rw [if_neg q, if_pos (by omega)]
    have hI2 := hI
    obtain ⟨r1, r2, r3, r4, r5, r6, r7, r8, r9, r10, r11, r12, r13⟩ := hI2
    have hrc : rcF tx L L = ht := by unfold rcF; rw [if_neg (by omega), r6]
    have := MO_read_14_spec (tx := tx) (L := L) (v1 := -1) (m1 := 0) (m3 := m3) (m4 := m4) (m5 := m5) (m6 := m6) (m7 := m7) (m8 := m8) (m9 := m9) (m10 := m10) (m11 := m11) (wl := wl) (ng := gl) (nb := bx) (np := peI pe) (nw := nI wd) (kp := kp) (post := post) hL (by
      unfold MO_read_14
      rw [if_pos (nI_le (Nat.le_refl _) (by omega)), if_pos (by decide)]
      by_cases ew : wd = 0
      · rw [if_pos (by rw [ew]; rfl)]
        refine hB e x y wd ht wl gl bx pe eE (Or.inl ?_) _ _ _ _ _
        cases pe with
        | none => rfl
        | some p => have := (r10 p rfl).2.2.1; omega
      rw [if_neg (nI_ne0 (by omega) (by omega))]
      cases pe with
      | none => rw [if_pos (show peI none < 0 by decide)]; exact hB e x y wd ht wl gl bx none eE (Or.inl rfl) _ _ _ _ _
      | some p =>
        have hp := (r10 p rfl).2.1
        rw [if_neg (show ¬ peI (some p) < 0 from nI_pos (by omega))]
        refine MO_countOf_spec (MO_countOf_spec ?_)
        by_cases q : cnt gl ≤ cnt bx
        · rw [if_pos (nI_le q (by omega)), hrc]
          exact ⟨ht + 1, MO_read_141_spec r3 hht (fun F hF => hC e x y wd ht wl gl bx p F eE q hI hht hF _ _ _ _ _) (ht + 1) 0 0 (Nat.zero_le _) (by omega) (recOK.zero wd wl)⟩
        · rw [if_neg (nI_ge (by omega) (by omega))]
          exact hB e x y wd ht wl gl bx _ eE (Or.inr (by omega)) _ _ _ _ _) (L + 1) 0 (Nat.zero_le _) (by omega)
    rw [h0] at this
    exact ⟨L + 1, this⟩
