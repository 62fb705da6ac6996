/-! reading a picture -/
theorem kLt {k c : Nat} (h : k < c) (hc : c < 2 ^ 31) : (OfNat.ofNat k : Int32) < nI c := nI_lt h hc
theorem kNlt {k c : Nat} (h : c ≤ k) (hk : k < 2 ^ 31) : ¬ (OfNat.ofNat k : Int32) < nI c := nI_nlt h hk
theorem ltK {k c : Nat} (h : c < k) (hk : k < 2 ^ 31) : nI c < (OfNat.ofNat k : Int32) := nI_lt h hk
theorem nltK {k c : Nat} (h : k ≤ c) (hc : c < 2 ^ 31) : ¬ nI c < (OfNat.ofNat k : Int32) := nI_nlt h hc
def isE (u : Int32) : Bool := decide (u = 10) || decide (u = 124)
def gQ (u : Int32) : Bool := decide (u = 46) || decide (u = 42) || decide (u = 43)
def bQ (u : Int32) : Bool := decide (u = 36) || decide (u = 42)
def wQ (u : Int32) : Bool := decide (u = 64) || decide (u = 43)
def okQ (u : Int32) : Bool := gQ u || bQ u || wQ u || decide (u = 35) || decide (u = 32) || decide (u = 95)
/-- x, y, width, height, walls, goals, boxes, person -/
def badR (u : Int32) (x y : Nat) (gl bx : Int64) (pe : Option Nat) : Bool := decide (y = 8) || (!isE u && (decide (x = 8) || !okQ u || (wQ u && pe.isSome) || (gQ u && decide (cnt gl = 12)) || (bQ u && decide (cnt bx = 12))))
def putR (u : Int32) (x y wd ht : Nat) (wl gl bx : Int64) (pe : Option Nat) : Nat × Nat × Nat × Nat × Int64 × Int64 × Int64 × Option Nat :=
  if isE u = true then (0, y + 1, wd, y + 1, wl, gl, bx, pe) else (x + 1, y, max wd (x + 1), y + 1, if u = 35 then wl ||| bit (8 * y + x) else wl, if gQ u = true then gl ||| bit (8 * y + x) else gl, if bQ u = true then bx ||| bit (8 * y + x) else bx, if wQ u = true then some (8 * y + x) else pe)
def lkB (tx : Nat → Int32) : Nat → Nat → Nat × Nat × Nat × Nat × Int64 × Int64 × Int64 × Option Nat → Option Nat
  | 0, _, _ => none
  | n + 1, i, (x, y, wd, ht, wl, gl, bx, pe) => if badR (tx i) x y gl bx pe = true then some i else lkB tx n (i + 1) (putR (tx i) x y wd ht wl gl bx pe)
def lkE (tx : Nat → Int32) : Nat → Nat → Nat × Nat × Nat × Nat × Int64 × Int64 × Int64 × Option Nat → Nat × Nat × Nat × Nat × Int64 × Int64 × Int64 × Option Nat
  | 0, _, st => st
  | n + 1, i, (x, y, wd, ht, wl, gl, bx, pe) => lkE tx n (i + 1) (putR (tx i) x y wd ht wl gl bx pe)
def rowsF (tx : Nat → Int32) : Nat → Nat
  | 0 => 0
  | i + 1 => rowsF tx i + if isE (tx i) = true then 1 else 0
/-- cells that are drawn lie before the next one -/
def inR (k wd y : Nat) (X : Int64) : Prop := ∀ i, i < 64 → tb X i = true → i < k ∧ i % 8 < wd ∧ i / 8 ≤ y
def RI (tx : Nat → Int32) (i x y wd ht : Nat) (wl gl bx : Int64) (pe : Option Nat) : Prop :=
  x ≤ 8 ∧ y ≤ 8 ∧ wd ≤ 8 ∧ x ≤ wd ∧ y = rowsF tx i ∧ ht = (if i = 0 then 0 else rowsF tx (i - 1) + 1) ∧ inR (8 * y + x) wd (ht - 1) wl ∧ inR (8 * y + x) wd (ht - 1) gl ∧ inR (8 * y + x) wd (ht - 1) bx ∧ (∀ p, pe = some p → p < 8 * y + x ∧ p < 64 ∧ p % 8 < wd ∧ p / 8 ≤ ht - 1 ∧ tb wl p = false ∧ tb bx p = false) ∧ cnt gl ≤ 12 ∧ cnt bx ≤ 12 ∧ (∀ i, i < 64 → tb wl i = true → tb gl i = false ∧ tb bx i = false)
def peL (pe : Option Nat) : Int64 := match pe with
  | some p => bit p
  | none => 0
def peI (pe : Option Nat) : Int32 := match pe with
  | some p => nI p
  | none => -1
theorem cnt_fresh {X : Int64} {k : Nat} (hk : k < 64) (h : tb X k = false) : cnt (X ||| bit k) = cnt X + 1 := by
  have key : ∀ m, cntN (X ||| bit k) m = cntN X m + if k < m then 1 else 0 := by
    intro m
    induction m with
    | zero => rfl
    | succ m ih =>
      rw [cntN_s, cntN_s, ih, tb_orbit hk]
      by_cases e : m = k
      · subst e
        rw [h, if_neg (show ¬ m < m by omega), if_pos (show m < m + 1 by omega)]
        simp
      · by_cases q : k < m
        · rw [if_pos q, if_pos (show k < m + 1 by omega), decide_eq_false e, Bool.or_false]; omega
        · rw [if_neg q, if_neg (show ¬ k < m + 1 by omega), decide_eq_false e, Bool.or_false]; rfl
  have := key 64
  rw [if_pos hk] at this
  exact this
theorem inR.up {k wd y k' wd' y' : Nat} {X : Int64} (h : inR k wd y X) (h1 : k ≤ k') (h2 : wd ≤ wd') (h3 : y ≤ y') : inR k' wd' y' X := fun i hi e => by
  have := h i hi e; omega
theorem inR.fresh {k wd y : Nat} {X : Int64} (hk : k < 64) (h : inR k wd y X) : tb X k = false := by
  cases e : tb X k with
  | false => rfl
  | true => have := h k hk e; omega
theorem inR.bit {k wd y : Nat} {X : Int64} (hk : k < 64) (h : inR k wd y X) (h2 : k % 8 < wd) (h3 : k / 8 ≤ y) : inR (k + 1) wd y (X ||| bit k) := fun i hi e => by
  rw [tb_orbit hk] at e
  by_cases q : i = k
  · subst q; omega
  · rw [decide_eq_false q, Bool.or_false] at e
    have := h i hi e; omega
theorem RI_step {tx : Nat → Int32} {i x y wd ht : Nat} {wl gl bx : Int64} {pe : Option Nat} (h : RI tx i x y wd ht wl gl bx pe) (hb : badR (tx i) x y gl bx pe = false) : ∃ x' y' wd' ht' wl' gl' bx' pe', putR (tx i) x y wd ht wl gl bx pe = (x', y', wd', ht', wl', gl', bx', pe') ∧ RI tx (i + 1) x' y' wd' ht' wl' gl' bx' pe' := by
  obtain ⟨h1, h2, h3, h4, h5, h6, h7, h8, h9, h10, h11, h12, h13⟩ := h
  unfold badR at hb
  rw [Bool.or_eq_false_iff] at hb
  have hy8 : ¬ y = 8 := of_decide_eq_false hb.1
  have hht : ht - 1 ≤ y := by
    rw [h6]
    by_cases e : i = 0
    · rw [if_pos e]; omega
    · rw [if_neg e, h5]
      obtain ⟨j, rfl⟩ : ∃ j, i = j + 1 := ⟨i - 1, by omega⟩
      show rowsF tx j + 1 - 1 ≤ rowsF tx j + _
      omega
  unfold putR
  cases eu : isE (tx i) with
  | true =>
    rw [if_pos rfl]
    refine ⟨_, _, _, _, _, _, _, _, rfl, ?_⟩
    refine ⟨by omega, by omega, h3, by omega, ?_, ?_, h7.up (by omega) (Nat.le_refl _) (by omega), h8.up (by omega) (Nat.le_refl _) (by omega), h9.up (by omega) (Nat.le_refl _) (by omega), fun p hp => ?_, h11, h12, h13⟩
    · show y + 1 = rowsF tx i + if isE (tx i) = true then 1 else 0
      rw [eu, if_pos rfl, h5]
    · rw [if_neg (by omega), show i + 1 - 1 = i from rfl, ← h5]
    · obtain ⟨c1, c2, c3, c4, c5, c6⟩ := h10 p hp
      exact ⟨by omega, c2, c3, by omega, c5, c6⟩
  | false =>
    rw [if_neg Bool.false_ne_true]
    rw [eu, Bool.not_false, Bool.true_and, Bool.or_eq_false_iff, Bool.or_eq_false_iff, Bool.or_eq_false_iff, Bool.or_eq_false_iff] at hb
    obtain ⟨-, ⟨⟨⟨b1, b2⟩, b3⟩, b4⟩, b5⟩ := hb
    have hx8 : ¬ x = 8 := of_decide_eq_false b1
    have hk : 8 * y + x < 64 := by omega
    have hk8 : (8 * y + x) % 8 < max wd (x + 1) := by omega
    have hkd : (8 * y + x) / 8 ≤ y := by omega
    have f7 := h7.fresh hk
    have f8 := h8.fresh hk
    have f9 := h9.fresh hk
    refine ⟨_, _, _, _, _, _, _, _, rfl, ?_⟩
    have up : ∀ X, inR (8 * y + x) wd (ht - 1) X → inR (8 * y + (x + 1)) (max wd (x + 1)) (y + 1 - 1) X := fun X h => h.up (by omega) (by omega) (by omega)
    have upb : ∀ X, inR (8 * y + x) wd (ht - 1) X → inR (8 * y + (x + 1)) (max wd (x + 1)) (y + 1 - 1) (X ||| bit (8 * y + x)) := fun X h => inR.bit hk (h.up (Nat.le_refl _) (by omega) (by omega)) hk8 hkd
    have gb_wl : tx i = 35 → gQ (tx i) = false ∧ bQ (tx i) = false ∧ wQ (tx i) = false := fun e => by rw [e]; decide
    have bw : bQ (tx i) = true → wQ (tx i) = false := fun e => by
      unfold bQ at e
      rw [Bool.or_eq_true] at e
      rcases e with e | e <;> rw [of_decide_eq_true e] <;> decide
    refine ⟨by omega, by omega, by omega, by omega, ?_, ?_, ?_, ?_, ?_, ?_, ?_, ?_, ?_⟩
    · show y = rowsF tx i + if isE (tx i) = true then 1 else 0
      rw [eu]; exact h5
    · rw [if_neg (by omega), show i + 1 - 1 = i from rfl, ← h5]
    · by_cases e : tx i = 35
      · rw [if_pos e]; exact upb _ h7
      · rw [if_neg e]; exact up _ h7
    · cases e : gQ (tx i) with
      | true => rw [if_pos rfl]; exact upb _ h8
      | false => rw [if_neg Bool.false_ne_true]; exact up _ h8
    · cases e : bQ (tx i) with
      | true => rw [if_pos rfl]; exact upb _ h9
      | false => rw [if_neg Bool.false_ne_true]; exact up _ h9
    · intro p hp
      cases e : wQ (tx i) with
      | true =>
        rw [e, if_pos rfl] at hp
        cases hp
        have e35 : ¬ tx i = 35 := fun q => by have := (gb_wl q).2.2; rw [e] at this; cases this
        have eb : bQ (tx i) = false := by
          cases q : bQ (tx i) with
          | false => rfl
          | true => have := bw q; rw [e] at this; cases this
        rw [if_neg e35, eb, if_neg Bool.false_ne_true]
        exact ⟨by omega, hk, hk8, hkd, f7, f9⟩
      | false =>
        rw [e, if_neg Bool.false_ne_true] at hp
        obtain ⟨c1, c2, c3, c4, c5, c6⟩ := h10 p hp
        have pk : ¬ p = 8 * y + x := by omega
        refine ⟨by omega, c2, by omega, by omega, ?_, ?_⟩
        · by_cases e : tx i = 35
          · rw [if_pos e, tb_orbit hk, c5, decide_eq_false pk]; rfl
          · rw [if_neg e]; exact c5
        · cases e : bQ (tx i) with
          | true => rw [if_pos rfl, tb_orbit hk, c6, decide_eq_false pk]; rfl
          | false => rw [if_neg Bool.false_ne_true]; exact c6
    · cases e : gQ (tx i) with
      | true =>
        rw [e, Bool.true_and] at b4
        have := of_decide_eq_false b4
        rw [if_pos rfl, cnt_fresh hk f8]; omega
      | false => rw [if_neg Bool.false_ne_true]; exact h11
    · cases e : bQ (tx i) with
      | true =>
        rw [e, Bool.true_and] at b5
        have := of_decide_eq_false b5
        rw [if_pos rfl, cnt_fresh hk f9]; omega
      | false => rw [if_neg Bool.false_ne_true]; exact h12
    · intro j hj hw
      by_cases e : tx i = 35
      · rw [if_pos e] at hw
        obtain ⟨g1, g2, -⟩ := gb_wl e
        rw [g1, g2, if_neg Bool.false_ne_true, if_neg Bool.false_ne_true]
        rw [tb_orbit hk] at hw
        by_cases q : j = 8 * y + x
        · rw [q]; exact ⟨f8, f9⟩
        · rw [decide_eq_false q, Bool.or_false] at hw; exact h13 j hj hw
      · rw [if_neg e] at hw
        obtain ⟨g1, g2⟩ := h13 j hj hw
        have q : ¬ j = 8 * y + x := fun q => by rw [q, f7] at hw; cases hw
        constructor
        · cases e : gQ (tx i) with
          | true => rw [if_pos rfl, tb_orbit hk, g1, decide_eq_false q]; rfl
          | false => rw [if_neg Bool.false_ne_true]; exact g1
        · cases e : bQ (tx i) with
          | true => rw [if_pos rfl, tb_orbit hk, g2, decide_eq_false q]; rfl
          | false => rw [if_neg Bool.false_ne_true]; exact g2
/-! the program takes a byte -/
theorem or_ne0 {x : Int64} {k : Nat} (hk : k < 64) : ¬ x ||| bit k = 0 := fun e => by
  have h : tb (x ||| bit k) k = true := by rw [tb_orbit hk]; simp
  rw [e, tb_zero] at h; cases h
theorem takesGoal_spec {X : Int64} {k : Nat} (hk : k < 64) (hf : tb X k = false) (hc : cnt X ≤ 12) {post : Int32 → Int64 → Prop} (h1 : ¬ cnt X = 12 → post 1 (X ||| bit k)) (h0 : cnt X = 12 → ∀ Y, post 0 Y) : PI_takesGoal X (bit k) post := by
  intro z ez
  subst ez
  refine JL_bitCount_spec ?_
  rw [cnt_fresh hk hf]
  by_cases e : cnt X = 12
  · rw [if_pos (kLt (k := 12) (by omega) (by omega))]; exact h0 e _
  · rw [if_neg (kNlt (k := 12) (by omega) (by omega))]; exact h1 e
theorem takesBox_spec {X : Int64} {k : Nat} (hk : k < 64) (hf : tb X k = false) (hc : cnt X ≤ 12) {post : Int32 → Int64 → Prop} (h1 : ¬ cnt X = 12 → post 1 (X ||| bit k)) (h0 : cnt X = 12 → ∀ Y, post 0 Y) : PI_takesBox X (bit k) post := by
  intro z ez
  subst ez
  refine JL_bitCount_spec ?_
  rw [cnt_fresh hk hf]
  by_cases e : cnt X = 12
  · rw [if_pos (kLt (k := 12) (by omega) (by omega))]; exact h0 e _
  · rw [if_neg (kNlt (k := 12) (by omega) (by omega))]; exact h1 e
theorem takesPerson_spec {pe : Option Nat} {k : Nat} (hpe : ∀ p, pe = some p → p < 64) {post : Int32 → Int64 → Prop} (h1 : pe.isSome = false → post 1 (bit k)) (h0 : pe.isSome = true → ∀ Y, post 0 Y) : PI_takesPerson (peL pe) (bit k) post := by
  unfold PI_takesPerson
  cases pe with
  | none =>
    rw [if_pos (show peL none = 0 from rfl)]
    intro z ez
    refine ⟨Or.inr rfl, ?_⟩
    have : (0 : Int64) ||| bit k = bit k := tb_ext fun i _ => by rw [tb_or, tb_zero]; rfl
    rw [ez, show peL none = 0 from rfl, this]
    exact h1 rfl
  | some p =>
    rw [if_neg (show ¬ peL (some p) = 0 from bit_ne0 (hpe p rfl))]
    intro z ez
    exact ⟨Or.inl rfl, h0 rfl _⟩
theorem PI_takesSign_spec {u : Int32} {k : Nat} {wl gl bx : Int64} {pe : Option Nat} (hk : k < 64) (fg : tb gl k = false) (fb : tb bx k = false) (cg : cnt gl ≤ 12) (cb : cnt bx ≤ 12) (hpe : ∀ p, pe = some p → p < 64) {post : Int32 → Int64 → Int64 → Int64 → Int64 → Prop}
    (h1 : (!okQ u || (wQ u && pe.isSome) || (gQ u && decide (cnt gl = 12)) || (bQ u && decide (cnt bx = 12))) = false → post 1 (if u = 35 then wl ||| bit k else wl) (if gQ u = true then gl ||| bit k else gl) (if bQ u = true then bx ||| bit k else bx) (peL (if wQ u = true then some k else pe)))
    (h0 : (!okQ u || (wQ u && pe.isSome) || (gQ u && decide (cnt gl = 12)) || (bQ u && decide (cnt bx = 12))) = true → ∀ a b c d, post 0 a b c d) : PI_takesSign wl gl bx (peL pe) u (bit k) post := by
  unfold PI_takesSign
  by_cases e : u = 32
  · rw [if_pos e]; subst e; exact h1 rfl
  rw [if_neg e]
  by_cases e : u = 35
  · rw [if_pos e]; subst e; intro z ez; rw [ez]; exact h1 rfl
  rw [if_neg e]
  by_cases e : u = 36
  · rw [if_pos e]; subst e
    refine takesBox_spec hk fb cb (fun q => ⟨Or.inr rfl, h1 ?_⟩) (fun q Y => ⟨Or.inl rfl, h0 ?_ _ _ _ _⟩)
    · rw [decide_eq_false q]; rfl
    · rw [decide_eq_true q]; simp [show bQ 36 = true from rfl]
  rw [if_neg e]
  by_cases e : u = 42
  · rw [if_pos e]; subst e
    refine takesGoal_spec hk fg cg (fun q => ?_) (fun q Y => ?_)
    · rw [if_neg (by decide)]
      refine takesBox_spec hk fb cb (fun q2 => ?_) (fun q2 Y => ?_)
      · rw [if_neg (by decide)]; exact h1 (by rw [decide_eq_false q, decide_eq_false q2]; rfl)
      · rw [if_pos rfl]; exact h0 (by rw [decide_eq_true q2]; simp [show bQ 42 = true from rfl]) _ _ _ _
    · rw [if_pos rfl]; exact h0 (by rw [decide_eq_true q]; simp [show gQ 42 = true from rfl]) _ _ _ _
  rw [if_neg e]
  by_cases e : u = 43
  · rw [if_pos e]; subst e
    refine takesGoal_spec hk fg cg (fun q => ?_) (fun q Y => ?_)
    · rw [if_neg (by decide)]
      refine takesPerson_spec hpe (fun q2 => ?_) (fun q2 Y => ?_)
      · rw [if_neg (by decide)]; exact h1 (by rw [decide_eq_false q, q2]; rfl)
      · rw [if_pos rfl]; exact h0 (by rw [q2]; simp [show wQ 43 = true from rfl]) _ _ _ _
    · rw [if_pos rfl]; exact h0 (by rw [decide_eq_true q]; simp [show gQ 43 = true from rfl]) _ _ _ _
  rw [if_neg e]
  by_cases e : u = 46
  · rw [if_pos e]; subst e
    refine takesGoal_spec hk fg cg (fun q => ⟨Or.inr rfl, h1 ?_⟩) (fun q Y => ⟨Or.inl rfl, h0 ?_ _ _ _ _⟩)
    · rw [decide_eq_false q]; rfl
    · rw [decide_eq_true q]; simp [show gQ 46 = true from rfl]
  rw [if_neg e]
  by_cases e : u = 64
  · rw [if_pos e]; subst e
    refine takesPerson_spec hpe (fun q2 => ⟨Or.inr rfl, h1 ?_⟩) (fun q2 Y => ⟨Or.inl rfl, h0 ?_ _ _ _ _⟩)
    · rw [q2]; rfl
    · rw [q2]; simp [show wQ 64 = true from rfl]
  rw [if_neg e]
  by_cases e : u = 95
  · rw [if_pos e]; subst e; exact h1 rfl
  rw [if_neg e]
  refine h0 ?_ _ _ _ _
  have : okQ u = false := by unfold okQ gQ bQ wQ; simp [*]
  rw [this]; rfl
theorem PI_takes_spec {tx : Nat → Int32} {i x y wd ht : Nat} {wl gl bx : Int64} {pe : Option Nat} (h : RI tx i x y wd ht wl gl bx pe) {post : Int32 → Int32 → Int32 → Int64 → Int64 → Int64 → Int64 → Int32 → Int32 → Prop}
    (h1 : badR (tx i) x y gl bx pe = false → ∀ x' y' wd' ht' wl' gl' bx' pe', putR (tx i) x y wd ht wl gl bx pe = (x', y', wd', ht', wl', gl', bx', pe') → post 1 (nI wd') (nI ht') wl' gl' bx' (peL pe') (nI x') (nI y'))
    (h0 : badR (tx i) x y gl bx pe = true → ∀ a b c d e f g h, post 0 a b c d e f g h) : PI_takes (nI wd) (nI ht) wl gl bx (peL pe) (nI x) (nI y) (tx i) post := by
  obtain ⟨r1, r2, r3, r4, r5, r6, r7, r8, r9, r10, r11, r12, r13⟩ := h
  unfold PI_takes
  by_cases ey : y = 8
  · rw [if_neg (nltK (k := 8) (by omega) (by omega))]
    exact h0 (by unfold badR; rw [decide_eq_true ey]; rfl) _ _ _ _ _ _ _ _
  · rw [if_pos (ltK (k := 8) (by omega) (by decide))]
    intro z ez
    rw [nI_1] at ez
    subst ez
    have eol : isE (tx i) = true → PI_takes_33 post (nI wd) (nI (y + 1)) wl gl bx (peL pe) (nI x) (nI y) := fun e => by
      intro v ev
      rw [ev, nI_1]
      refine h1 ?_ 0 (y + 1) wd (y + 1) wl gl bx pe ?_
      · unfold badR; rw [decide_eq_false ey, e]; rfl
      · unfold putR; rw [if_pos e]
    by_cases e1 : tx i = 10
    · rw [if_pos e1]; exact eol (by rw [e1]; decide)
    · rw [if_neg e1]
      by_cases e2 : tx i = 124
      · rw [if_pos e2]; exact eol (by rw [e2]; decide)
      · rw [if_neg e2]
        have eE : isE (tx i) = false := by unfold isE; rw [decide_eq_false e1, decide_eq_false e2]; rfl
        by_cases ex : x = 8
        · rw [if_pos (kL (k := 8) (by omega) (by omega))]
          exact h0 (by unfold badR; rw [eE, decide_eq_true ex]; simp) _ _ _ _ _ _ _ _
        · rw [if_neg (kG (k := 8) (by omega) (by decide))]
          have hk : 8 * y + x < 64 := by omega
          unfold PB_cellAt
          rw [show (8 : Int32) = nI 8 from rfl, pk_mul, nI_add]
          refine PI_takesSign_spec hk (r8.fresh hk) (r9.fresh hk) r11 r12 (fun p hp => (r10 p hp).2.1) (fun q => ?_) (fun q a b c d => ?_)
          · rw [if_neg (by decide)]
            intro x' ex' w' ew'
            rw [nI_1] at ex'
            subst ex'
            have hw : w' = nI (max wd (x + 1)) := by
              rw [ew']
              by_cases q2 : wd < x + 1
              · rw [if_pos (nI_lt q2 (by omega)), Nat.max_eq_right (by omega)]
              · rw [if_neg (nI_nlt (by omega) (by omega)), Nat.max_eq_left (by omega)]
            rw [hw]
            refine h1 ?_ (x + 1) y (max wd (x + 1)) (y + 1) _ _ _ _ ?_
            · unfold badR
              rw [decide_eq_false ey, eE, decide_eq_false ex]
              simpa using q
            · unfold putR; rw [if_neg (by rw [eE]; decide)]
          · rw [if_pos rfl]
            refine h0 ?_ _ _ _ _ _ _ _ _
            unfold badR
            rw [decide_eq_false ey, eE, decide_eq_false ex]
            simpa using q
