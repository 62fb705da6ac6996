/-! rectangles -/
theorem neK {k c : Nat} (h : ¬ c = k) (hc : c < 2 ^ 31) (hk : k < 2 ^ 31) : ¬ nI c = (OfNat.ofNat k : Int32) := fun e => h ((nI_eq hc hk).mp e)
def recOK (W y x : Nat) (wl X : Int64) : Prop := ∀ i, i < 64 → (tb X i = true ↔ tb wl i = false ∧ i % 8 < W ∧ (i / 8 < y ∨ i / 8 = y ∧ i % 8 < x))
def flOK (W H : Nat) (wl F : Int64) : Prop := ∀ i, i < 64 → (tb F i = true ↔ tb wl i = false ∧ i % 8 < W ∧ i / 8 < H)
theorem flOK.uniq {W H : Nat} {wl F G : Int64} (h : flOK W H wl F) (g : flOK W H wl G) : F = G := tb_ext fun i hi => by
  cases e : tb F i with
  | true => exact ((g i hi).mpr ((h i hi).mp e)).symm
  | false =>
    cases e2 : tb G i with
    | false => rfl
    | true => rw [(h i hi).mpr ((g i hi).mp e2)] at e; cases e
theorem recOK.bit {W y x : Nat} {wl X : Int64} (hy : y < 8) (hx : x < 8) (hxW : x < W) (h : recOK W y x wl X) (hw : tb wl (8 * y + x) = false) : recOK W y (x + 1) wl (X ||| bit (8 * y + x)) := fun i hi => by
  rw [tb_orbit (by omega), Bool.or_eq_true, h i hi]
  constructor
  · rintro (⟨a, b, c⟩ | c)
    · exact ⟨a, b, by omega⟩
    · have := of_decide_eq_true c
      subst this
      exact ⟨hw, by omega, by omega⟩
  · rintro ⟨a, b, c⟩
    by_cases e : i = 8 * y + x
    · exact Or.inr (decide_eq_true e)
    · exact Or.inl ⟨a, b, by omega⟩
theorem recOK.skip {W y x : Nat} {wl X : Int64} (hx : x < 8) (h : recOK W y x wl X) (hw : tb wl (8 * y + x) = true) : recOK W y (x + 1) wl X := fun i hi => by
  rw [h i hi]
  constructor
  · rintro ⟨a, b, c⟩; exact ⟨a, b, by omega⟩
  · rintro ⟨a, b, c⟩
    have : ¬ i = 8 * y + x := fun e => by rw [e, hw] at a; cases a
    exact ⟨a, b, by omega⟩
theorem recOK.row {W y : Nat} {wl X : Int64} (h : recOK W y W wl X) : recOK W (y + 1) 0 wl X := fun i hi => by
  rw [h i hi]
  constructor
  · rintro ⟨a, b, c⟩; exact ⟨a, b, by omega⟩
  · rintro ⟨a, b, c⟩; exact ⟨a, b, by omega⟩
theorem recOK.fin {W H : Nat} {wl X : Int64} (h : recOK W H 0 wl X) : flOK W H wl X := fun i hi => by
  rw [h i hi]
  constructor
  · rintro ⟨a, b, c⟩; exact ⟨a, b, by omega⟩
  · rintro ⟨a, b, c⟩; exact ⟨a, b, by omega⟩
theorem recOK.zero (W : Nat) (wl : Int64) : recOK W 0 0 wl 0 := fun i hi => by
  rw [tb_zero]
  exact ⟨fun h => Bool.noConfusion h, fun ⟨a, b, c⟩ => by omega⟩
theorem BO_rect_14 {W H y : Nat} {k5 : Int32 → Int32 → Int64 → Int32 → Prop} {post : Int64 → Prop} (hW : W ≤ 8) (hy : y < 8) (hk : ∀ X, recOK W y W 0 X → k5 (nI W) (nI H) X (nI (y + 1))) :
    ∀ n x X, x ≤ W → W - x < n → recOK W y x 0 X → BO_rectangle_14 k5 post n (nI W) (nI H) X (nI y) (nI x) := by
  intro n
  induction n with
  | zero => intro x X _ h; exact absurd h (Nat.not_lt_zero _)
  | succ n ih =>
    intro x X hx hn hX
    unfold BO_rectangle_14
    by_cases q : W ≤ x
    · rw [if_pos (nI_le q (by omega)), nI_1]
      rw [show x = W by omega] at hX
      exact hk X hX
    · rw [if_neg (nI_ge (by omega) (by omega))]
      unfold PB_cellAt
      rw [show (8 : Int32) = nI 8 from rfl, pk_mul, nI_add, nI_1]
      intro z ez
      rw [ez]
      exact ih (x + 1) _ (by omega) (by omega) (hX.bit hy (by omega) (by omega) (tb_zero _))
theorem BO_rect_5 {W H : Nat} {post : Int64 → Prop} (hW : W ≤ 8) (hH : H ≤ 8) (hk : ∀ X, flOK W H 0 X → post X) :
    ∀ n y X, y ≤ H → H - y < n → recOK W y 0 0 X → BO_rectangle_5 post n (nI W) (nI H) X (nI y) := by
  intro n
  induction n with
  | zero => intro x X _ h; exact absurd h (Nat.not_lt_zero _)
  | succ n ih =>
    intro y X hy hn hX
    unfold BO_rectangle_5
    by_cases q : H ≤ y
    · rw [if_pos (nI_le q (by omega))]
      rw [show y = H by omega] at hX
      exact hk X hX.fin
    · rw [if_neg (nI_ge (by omega) (by omega))]
      exact ⟨W + 1, BO_rect_14 hW (by omega) (fun Y h => ih (y + 1) Y (by omega) (by omega) h.row) (W + 1) 0 X (Nat.zero_le _) (by omega) hX⟩
theorem BO_rectangle_spec {W H : Nat} {post : Int64 → Prop} (hW : W ≤ 8) (hH : H ≤ 8) (hk : ∀ X, flOK W H 0 X → post X) : BO_rectangle (nI W) (nI H) post :=
  ⟨H + 1, BO_rect_5 hW hH hk (H + 1) 0 0 (Nat.zero_le _) (by omega) (recOK.zero W 0)⟩
theorem flOK.minus {W H : Nat} {wl X : Int64} (h : flOK W H 0 X) : flOK W H wl (X &&& (wl ^^^ (-1))) := fun i hi => by
  rw [tb_diff, Bool.and_eq_true, h i hi, tb_zero]
  constructor
  · rintro ⟨⟨-, b, c⟩, d⟩
    refine ⟨?_, b, c⟩
    cases e : tb wl i with
    | false => rfl
    | true => rw [e] at d; cases d
  · rintro ⟨a, b, c⟩
    exact ⟨⟨rfl, b, c⟩, by rw [a]; rfl⟩
theorem BO_setUp_spec {wd ht : Nat} {wl gl bx pl : Int64} {b1 b2 : Int32} {b3 b4 b5 b6 b7 b8 b9 : Int64} {post : Int32 → Int32 → Int64 → Int64 → Int64 → Int64 → Int64 → Int64 → Int64 → Prop} (hW : wd ≤ 8) (hH : ht ≤ 8)
    (h : ∀ F lv, flOK wd ht wl F → isCl (El F) gl lv → post (nI wd) (nI ht) F gl lv bx pl (sh lv 0 ||| sh lv 2) (sh lv 1 ||| sh lv 3)) : BO_setUp (nI wd) (nI ht) wl gl bx pl b1 b2 b3 b4 b5 b6 b7 b8 b9 post := by
  refine BO_rectangle_spec hW hH (fun X hX => ?_)
  intro F eF
  refine BO_liveCells_spec (fun lv hlv => ?_)
  refine PB_shifted_spec (w := 0) (by decide) (PB_shifted_spec (w := 2) (by decide) ?_)
  intro r1 e1
  refine PB_shifted_spec (w := 1) (by decide) (PB_shifted_spec (w := 3) (by decide) ?_)
  intro r2 e2
  rw [e1, e2]
  exact h F lv (by rw [eF]; exact hX.minus) hlv
def st0 : Nat × Nat × Nat × Nat × Int64 × Int64 × Int64 × Option Nat := (0, 0, 0, 0, 0, 0, 0, none)
theorem inR_zero (k wd y : Nat) : inR k wd y 0 := fun i _ h => by rw [tb_zero] at h; cases h
theorem RI_0 (tx : Nat → Int32) : RI tx 0 0 0 0 0 0 0 0 none := ⟨by omega, by omega, by omega, by omega, rfl, rfl, inR_zero _ _ _, inR_zero _ _ _, inR_zero _ _ _, (fun p h => nomatch h), (by rw [cnt_zero]; omega), (by rw [cnt_zero]; omega), fun i _ h => by rw [tb_zero] at h; cases h⟩
theorem PB_read_14_spec {tx : Nat → Int32} {L : Nat} {tl b1 b2 : Int32} {b3 b4 b5 b6 b7 b8 b9 : Int64} {l1 l2 l3 l4 : Int32} {post : Int32 → Int32 → Int32 → Int32 → Int64 → Int64 → Int64 → Int64 → Int32 → Int32 → Int32 → Int32 → Int64 → Int64 → Int64 → Int64 → Int64 → Int64 → Int64 → Int32 → Int32 → Int32 → Int32 → Prop} (hL : L ≤ 160) 
    (hA : ∀ p, lkB tx L 0 st0 = some p → p < L → ∀ p1 p2 p3 p4 p5 p6 p7 p8, post ((-1 : Int32) - nI p) tl p1 p2 p3 p4 p5 p6 p7 p8 b1 b2 b3 b4 b5 b6 b7 b8 b9 l1 l2 l3 l4)
    (hB : lkB tx L 0 st0 = none → ∀ x y wd ht wl gl bx pe, lkE tx L 0 st0 = (x, y, wd, ht, wl, gl, bx, pe) → (pe = none ∨ cnt bx < cnt gl) → ∀ p1 p2 p3 p4 p5 p6 p7 p8, post (-200) tl p1 p2 p3 p4 p5 p6 p7 p8 b1 b2 b3 b4 b5 b6 b7 b8 b9 l1 l2 l3 l4)
    (hC : lkB tx L 0 st0 = none → ∀ x y wd ht wl gl bx p F lv, lkE tx L 0 st0 = (x, y, wd, ht, wl, gl, bx, some p) → cnt gl ≤ cnt bx → RI tx L x y wd ht wl gl bx (some p) → ht ≤ 8 → flOK wd ht wl F → isCl (El F) gl lv → ∀ p1 p2 p3 p4 p5 p6 p7 p8, post (nI (cnt bx)) tl p1 p2 p3 p4 p5 p6 p7 p8 (nI wd) (nI ht) F gl lv bx (bit p) (sh lv 0 ||| sh lv 2) (sh lv 1 ||| sh lv 3) 0 0 0 0) :
    ∀ n i x y wd ht wl gl bx pe, i ≤ L → L - i < n → RI tx i x y wd ht wl gl bx pe → ht ≤ 8 → lkB tx (L - i) i (x, y, wd, ht, wl, gl, bx, pe) = lkB tx L 0 st0 → lkE tx (L - i) i (x, y, wd, ht, wl, gl, bx, pe) = lkE tx L 0 st0 → PB_read_14 tx post n tl (nI wd) (nI ht) wl gl bx (peL pe) (nI x) (nI y) b1 b2 b3 b4 b5 b6 b7 b8 b9 l1 l2 l3 l4 (nI L) (nI i) := by
  intro n
  induction n with
  | zero => intro i _ _ _ _ _ _ _ _ _ h; exact absurd h (Nat.not_lt_zero _)
  | succ n ih =>
    intro i x y wd ht wl gl bx pe hi hn hI hht eB eE
    unfold PB_read_14
    by_cases q : L ≤ i
    · have ei : i = L := by omega
      subst ei
      rw [if_pos (nI_le q (by omega))]
      rw [Nat.sub_self] at eB eE
      have eB2 : lkB tx i 0 st0 = none := eB.symm
      have eE2 : lkE tx i 0 st0 = (x, y, wd, ht, wl, gl, bx, pe) := eE.symm
      clear eB eE
      unfold PI_isBoard
      cases pe with
      | none =>
        rw [if_pos (show peL none = 0 from rfl)]; dsimp only; rw [if_pos rfl]
        exact hB eB2 x y wd ht wl gl bx none eE2 (Or.inl rfl) _ _ _ _ _ _ _ _
      | some p =>
        have hI2 := hI
        obtain ⟨r1, r2, r3, r4, r5, r6, r7, r8, r9, r10, r11, r12, r13⟩ := hI2
        rw [if_neg (show ¬ peL (some p) = 0 from bit_ne0 (r10 p rfl).2.1)]
        refine JL_bitCount_spec (JL_bitCount_spec ?_)
        by_cases q2 : cnt bx < cnt gl
        · rw [if_pos (nI_lt q2 (by omega))]; dsimp only; rw [if_pos rfl]
          exact hB eB2 x y wd ht wl gl bx _ eE2 (Or.inr q2) _ _ _ _ _ _ _ _
        · rw [if_neg (nI_nlt (by omega) (by omega))]; dsimp only; rw [if_neg (by decide)]
          refine BO_setUp_spec r3 hht (fun F lv hF hlv => ?_)
          unfold LO_clear
          refine JL_bitCount_spec ?_
          exact hC eB2 x y wd ht wl gl bx p F lv eE2 (by omega) hI hht hF hlv _ _ _ _ _ _ _ _
    · rw [if_neg (nI_ge (by omega) (by omega))]
      refine ⟨vp_inN (by omega) (by decide), ?_⟩
      rw [nI_clamp (by omega)]
      have es : L - i = (L - (i + 1)) + 1 := by omega
      rw [es] at eB eE
      have eB : (if badR (tx i) x y gl bx pe = true then some i else lkB tx (L - (i + 1)) (i + 1) (putR (tx i) x y wd ht wl gl bx pe)) = lkB tx L 0 st0 := eB
      have eE : lkE tx (L - (i + 1)) (i + 1) (putR (tx i) x y wd ht wl gl bx pe) = lkE tx L 0 st0 := eE
      refine PI_takes_spec hI (fun hb x' y' wd' ht' wl' gl' bx' pe' ep => ?_) (fun hb a b c d e f g h => ?_)
      · rw [if_neg (by decide), nI_1]
        rw [if_neg (by rw [hb]; decide), ep] at eB
        rw [ep] at eE
        obtain ⟨x2, y2, wd2, ht2, wl2, gl2, bx2, pe2, e1, hI'⟩ := RI_step hI hb
        rw [ep] at e1
        cases e1
        refine ih (i + 1) x' y' wd' ht' wl' gl' bx' pe' (by omega) (by omega) hI' ?_ eB eE
        obtain ⟨-, h2, -, -, -, h6, -⟩ := hI'
        obtain ⟨-, g2, -, -, g5, -⟩ := hI
        rw [if_neg (by omega), show i + 1 - 1 = i from rfl, ← g5] at h6
        unfold badR at hb
        rw [Bool.or_eq_false_iff] at hb
        have := of_decide_eq_false hb.1
        omega
      · rw [if_pos rfl]
        rw [if_pos hb] at eB
        exact hA i eB.symm (by omega) _ _ _ _ _ _ _ _
theorem PB_read_spec {tx : Nat → Int32} {L : Nat} {q1 q2 : Int32} {q3 q4 q5 q6 : Int64} {q7 q8 b1 b2 : Int32} {b3 b4 b5 b6 b7 b8 b9 : Int64} {l1 l2 l3 l4 : Int32} {post : Int32 → Int32 → Int32 → Int32 → Int64 → Int64 → Int64 → Int64 → Int32 → Int32 → Int32 → Int32 → Int64 → Int64 → Int64 → Int64 → Int64 → Int64 → Int64 → Int32 → Int32 → Int32 → Int32 → Prop} (hL : L ≤ 160) 
    (hA : ∀ p, lkB tx L 0 st0 = some p → p < L → ∀ p1 p2 p3 p4 p5 p6 p7 p8, post ((-1 : Int32) - nI p) 0 p1 p2 p3 p4 p5 p6 p7 p8 b1 b2 b3 b4 b5 b6 b7 b8 b9 l1 l2 l3 l4)
    (hB : lkB tx L 0 st0 = none → ∀ x y wd ht wl gl bx pe, lkE tx L 0 st0 = (x, y, wd, ht, wl, gl, bx, pe) → (pe = none ∨ cnt bx < cnt gl) → ∀ p1 p2 p3 p4 p5 p6 p7 p8, post (-200) 0 p1 p2 p3 p4 p5 p6 p7 p8 b1 b2 b3 b4 b5 b6 b7 b8 b9 l1 l2 l3 l4)
    (hC : lkB tx L 0 st0 = none → ∀ x y wd ht wl gl bx p F lv, lkE tx L 0 st0 = (x, y, wd, ht, wl, gl, bx, some p) → cnt gl ≤ cnt bx → RI tx L x y wd ht wl gl bx (some p) → ht ≤ 8 → flOK wd ht wl F → isCl (El F) gl lv → ∀ p1 p2 p3 p4 p5 p6 p7 p8, post (nI (cnt bx)) 0 p1 p2 p3 p4 p5 p6 p7 p8 (nI wd) (nI ht) F gl lv bx (bit p) (sh lv 0 ||| sh lv 2) (sh lv 1 ||| sh lv 3) 0 0 0 0) :
    PB_read tx (nI L) q1 q2 q3 q4 q5 q6 q7 q8 b1 b2 b3 b4 b5 b6 b7 b8 b9 l1 l2 l3 l4 post :=
  ⟨L + 1, PB_read_14_spec hL hA hB hC (L + 1) 0 0 0 0 0 0 0 0 none (Nat.zero_le _) (by omega) (RI_0 tx) (Nat.zero_le _) rfl rfl⟩
/-! the reference's look -/
theorem look_185 {sz : Int32} {tm : Nat → Int32} {i x y wd : Nat} {wl gl bx : Int64} {pe : Option Nat} {u : Int32} {g b w : Bool} {k31 : Int64 → Int64 → Int64 → Int32 → Int32 → Int32 → Int32 → Int32 → Prop} {post : Int32 → Int64 → Int64 → Int64 → Int32 → Int32 → Prop} (hx : x ≤ 8) (hy : y < 8) (hwd : wd ≤ 8) (cg : cnt gl ≤ 12) (cb : cnt bx ≤ 12) (hpe : ∀ p, pe = some p → p < 64)
    (h0 : (decide (x = 8) || (w && pe.isSome) || (g && decide (cnt gl = 12)) || (b && decide (cnt bx = 12))) = true → ∀ n1 n2 n3 n4 n5, post (nI i) n1 n2 n3 n4 n5)
    (h1 : (decide (x = 8) || (w && pe.isSome) || (g && decide (cnt gl = 12)) || (b && decide (cnt bx = 12))) = false → k31 (if u = 35 then wl ||| bit (8 * y + x) else wl) (if g = true then gl ||| bit (8 * y + x) else gl) (if b = true then bx ||| bit (8 * y + x) else bx) (peI (if w = true then some (8 * y + x) else pe)) (nI (max wd (x + 1))) (nI (x + 1)) (nI y) (nI (i + 1))) :
    MO_look_185 sz tm k31 post wl gl bx (peI pe) (nI wd) (nI x) (nI y) (nI i) u (b01 g) (b01 b) (b01 w) := by
  unfold MO_look_185
  by_cases ex : x = 8
  · rw [if_pos (by rw [ex]; rfl)]; exact h0 (by rw [decide_eq_true ex]; simp) _ _ _ _ _
  rw [if_neg (neK (k := 8) ex (by omega) (by decide))]
  have s339 : ∀ F G B pI, k31 F G B pI (nI (max wd (x + 1))) (nI (x + 1)) (nI y) (nI (i + 1)) → MO_look_339 sz tm k31 post F G B (peI pe) (nI wd) (nI x) (nI y) (nI i) pI := fun F G B pI hh => by
    unfold MO_look_339
    rw [nI_1, nI_1]
    by_cases q : x + 1 ≤ wd
    · rw [if_pos (nI_le q (by omega))]
      rw [Nat.max_eq_left q] at hh
      exact hh
    · rw [if_neg (nI_ge (by omega) (by omega))]
      intro z ez
      rw [ez]
      rw [Nat.max_eq_right (by omega)] at hh
      exact hh
  have go : (w && pe.isSome) = false → MO_look_203 sz tm k31 post wl gl bx (peI pe) (nI wd) (nI x) (nI y) (nI i) u (b01 g) (b01 b) (b01 w) := fun hw => by
    have fin : (g && decide (cnt gl = 12)) = false → (b && decide (cnt bx = 12)) = false → MO_look_239 sz tm k31 post wl gl bx (peI pe) (nI wd) (nI x) (nI y) (nI i) u (b01 g) (b01 b) (b01 w) := fun hg hb => by
      have hh := h1 (by rw [hw, hg, hb, decide_eq_false ex]; rfl)
      intro z ez
      rw [show (8 : Int32) = nI 8 from rfl, pk_mul, nI_add] at ez
      have ez : z = bit (8 * y + x) := ez
      subst ez
      have s317 : ∀ F G B, k31 F G B (peI (if w = true then some (8 * y + x) else pe)) (nI (max wd (x + 1))) (nI (x + 1)) (nI y) (nI (i + 1)) → MO_look_317 sz tm k31 post F G bx (peI pe) (nI wd) (nI x) (nI y) (nI i) (b01 w) B := fun F G B h9 => by
        unfold MO_look_317
        cases w with
        | false => rw [if_pos b01F]; exact s339 _ _ _ _ h9
        | true => rw [if_neg b01T, show (8 : Int32) = nI 8 from rfl, pk_mul, nI_add]; exact s339 _ _ _ _ h9
      have s294 : ∀ F G, k31 F G (if b = true then bx ||| bit (8 * y + x) else bx) (peI (if w = true then some (8 * y + x) else pe)) (nI (max wd (x + 1))) (nI (x + 1)) (nI y) (nI (i + 1)) → MO_look_294 sz tm k31 post F gl bx (peI pe) (nI wd) (nI x) (nI y) (nI i) (b01 b) (b01 w) (bit (8 * y + x)) G := fun F G h9 => by
        unfold MO_look_294
        cases b with
        | false => rw [if_pos b01F]; exact s317 _ _ _ h9
        | true => rw [if_neg b01T]; exact s317 _ _ _ h9
      have s271 : ∀ F, k31 F (if g = true then gl ||| bit (8 * y + x) else gl) (if b = true then bx ||| bit (8 * y + x) else bx) (peI (if w = true then some (8 * y + x) else pe)) (nI (max wd (x + 1))) (nI (x + 1)) (nI y) (nI (i + 1)) → MO_look_271 sz tm k31 post wl gl bx (peI pe) (nI wd) (nI x) (nI y) (nI i) (b01 g) (b01 b) (b01 w) (bit (8 * y + x)) F := fun F h9 => by
        unfold MO_look_271
        cases g with
        | false => rw [if_pos b01F]; exact s294 _ _ h9
        | true => rw [if_neg b01T]; exact s294 _ _ h9
      by_cases e35 : u = 35
      · rw [if_pos e35]; rw [if_pos e35] at hh; exact s271 _ hh
      · rw [if_neg e35]; rw [if_neg e35] at hh; exact s271 _ hh
    have s220 : (g && decide (cnt gl = 12)) = false → MO_look_220 sz tm k31 post wl gl bx (peI pe) (nI wd) (nI x) (nI y) (nI i) u (b01 g) (b01 b) (b01 w) := fun hg => by
      unfold MO_look_220
      cases b with
      | false => rw [if_pos b01F]; exact fin hg rfl
      | true =>
        rw [if_neg b01T]
        refine MO_countOf_spec ?_
        by_cases q : cnt bx = 12
        · rw [if_pos (by rw [q]; rfl)]; exact h0 (by rw [decide_eq_true q]; simp) _ _ _ _ _
        · rw [if_neg (neK (k := 12) q (by omega) (by decide))]; exact fin hg (by rw [decide_eq_false q]; rfl)
    unfold MO_look_203
    cases g with
    | false => rw [if_pos b01F]; exact s220 rfl
    | true =>
      rw [if_neg b01T]
      refine MO_countOf_spec ?_
      by_cases q : cnt gl = 12
      · rw [if_pos (by rw [q]; rfl)]; exact h0 (by rw [decide_eq_true q]; simp) _ _ _ _ _
      · rw [if_neg (neK (k := 12) q (by omega) (by decide))]; exact s220 (by rw [decide_eq_false q]; rfl)
  cases w with
  | false => rw [if_pos b01F]; exact go rfl
  | true =>
    rw [if_neg b01T]
    cases pe with
    | none => rw [if_neg (by decide)]; exact go rfl
    | some p =>
      have := hpe p rfl
      rw [if_pos (show 0 ≤ peI (some p) from nI_pos' (by omega))]; exact h0 (by simp) _ _ _ _ _
