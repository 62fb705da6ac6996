/-! the small calls, both sides -/
theorem unit_both {tl : Nat} {tx : Nat → Int32} {v : Int32} (htl : tl ≤ 160) : ∃ r tl' tx', tl' ≤ 160 ∧ (∀ post : Int32 → Int32 → (Nat → Int32) → Prop, post r (nI tl') tx' → PB_unit (nI tl) tx v post) ∧ (∀ th (post : Int32 → Int32 → Int32 → (Nat → Int32) → Prop), post r 0 (nI tl') tx' → MO_unit th (nI tl) tx v post) := by
  by_cases e0 : v < 0
  · exact ⟨0, tl, tx, htl, fun post h => by unfold PB_unit; rw [if_pos e0]; exact h, fun th post h => by unfold MO_unit; rw [if_pos e0]; exact h⟩
  by_cases e1 : (255 : Int32) < v
  · exact ⟨0, tl, tx, htl, fun post h => by unfold PB_unit; rw [if_neg e0, if_pos e1]; exact h, fun th post h => by unfold MO_unit; rw [if_neg e0, if_pos e1]; exact h⟩
  by_cases e2 : tl < 160
  · refine ⟨1, tl + 1, upd tx tl v, e2, fun post h => ?_, fun th post h => ?_⟩
    · unfold PB_unit
      rw [if_neg e0, if_neg e1, if_pos (show nI tl < (160 : Int32) from nI_lt e2 (by decide))]
      refine ⟨vp_inN e2 (by decide), fun t1 g1 t2 g2 => ?_⟩
      rw [nI_clamp (by omega)] at g1
      rw [nI_1] at g2
      rw [g1, g2]; exact h
    · unfold MO_unit
      rw [if_neg e0, if_neg e1, if_neg (neK (k := 160) (by omega) (by omega) (by decide))]
      refine ⟨vp_inN e2 (by decide), fun t1 g1 t2 g2 => ?_⟩
      rw [nI_clamp (by omega)] at g1
      rw [nI_1] at g2
      rw [g1, g2]; exact h
  · have e3 : tl = 160 := by omega
    subst e3
    exact ⟨0, 160, tx, htl, fun post h => by unfold PB_unit; rw [if_neg e0, if_neg e1, if_neg (by decide)]; exact h, fun th post h => by unfold MO_unit; rw [if_neg e0, if_neg e1, if_pos (show nI 160 = (160 : Int32) from rfl)]; exact h⟩
theorem b01_1 : b01 true = 1 := rfl
theorem BO_isThere_spec {bd : Bool} {p : Nat} (hp : p < 64) {post : Int32 → Prop} (h : post (b01 bd)) : BO_isThere (psL bd p) post := by
  unfold BO_isThere
  cases bd with
  | false => rw [if_pos (show psL false p = 0 from rfl)]; exact h
  | true => rw [if_neg (show ¬ psL true p = 0 from bit_ne0 hp)]; exact h
theorem told_both {W H p : Nat} {gl bx : Int64} {mv pu v : Int32} {bd : Bool} (hp : p < 64) : ∃ r, (∀ post : Int32 → Prop, post r → PB_told (nI W) (nI H) gl bx (psL bd p) mv pu v post) ∧ (∀ th (post : Int32 → Int32 → Prop), post r 0 → MO_told (b01 bd) (nI W) (nI H) (nI p) mv pu gl bx th v post) := by
  by_cases e0 : v = 0
  · exact ⟨nI W, fun post h => by unfold PB_told; rw [if_pos e0]; exact h, fun th post h => by unfold MO_told; rw [if_pos e0]; exact h⟩
  by_cases e1 : v = 1
  · exact ⟨nI H, fun post h => by unfold PB_told; rw [if_neg e0, if_pos e1]; exact h, fun th post h => by unfold MO_told; rw [if_neg e0, if_pos e1]; exact h⟩
  by_cases e2 : v = 2
  · exact ⟨nI (cnt bx), fun post h => by unfold PB_told; rw [if_neg e0, if_neg e1, if_pos e2]; exact JL_bitCount_spec h, fun th post h => by unfold MO_told; rw [if_neg e0, if_neg e1, if_pos e2]; exact MO_countOf_spec h⟩
  by_cases e3 : v = 3
  · exact ⟨nI (cnt gl), fun post h => by unfold PB_told; rw [if_neg e0, if_neg e1, if_neg e2, if_pos e3]; exact JL_bitCount_spec h, fun th post h => by unfold MO_told; rw [if_neg e0, if_neg e1, if_neg e2, if_pos e3]; exact MO_countOf_spec h⟩
  by_cases e4 : v = 4
  · exact ⟨nI (cnt (bx &&& gl)), fun post h => by unfold PB_told; rw [if_neg e0, if_neg e1, if_neg e2, if_neg e3, if_pos e4]; exact JL_bitCount_spec h, fun th post h => by unfold MO_told; rw [if_neg e0, if_neg e1, if_neg e2, if_neg e3, if_pos e4]; exact MO_countOf_spec h⟩
  by_cases e5 : v = 5
  · exact ⟨mv, fun post h => by unfold PB_told; rw [if_neg e0, if_neg e1, if_neg e2, if_neg e3, if_neg e4, if_pos e5]; exact h, fun th post h => by unfold MO_told; rw [if_neg e0, if_neg e1, if_neg e2, if_neg e3, if_neg e4, if_pos e5]; exact h⟩
  by_cases e6 : v = 6
  · exact ⟨pu, fun post h => by unfold PB_told; rw [if_neg e0, if_neg e1, if_neg e2, if_neg e3, if_neg e4, if_neg e5, if_pos e6]; exact h, fun th post h => by unfold MO_told; rw [if_neg e0, if_neg e1, if_neg e2, if_neg e3, if_neg e4, if_neg e5, if_pos e6]; exact h⟩
  by_cases e7 : v = 7
  · cases bd with
    | false => exact ⟨-1, fun post h => by unfold PB_told; rw [if_neg e0, if_neg e1, if_neg e2, if_neg e3, if_neg e4, if_neg e5, if_neg e6, if_pos e7]; refine BO_isThere_spec hp ?_; rw [if_pos b01F]; exact h, fun th post h => by unfold MO_told; rw [if_neg e0, if_neg e1, if_neg e2, if_neg e3, if_neg e4, if_neg e5, if_neg e6, if_pos e7, if_pos b01F]; exact h⟩
    | true => exact ⟨_, fun post h => by unfold PB_told; rw [if_neg e0, if_neg e1, if_neg e2, if_neg e3, if_neg e4, if_neg e5, if_neg e6, if_pos e7]; refine BO_isThere_spec hp ?_; rw [if_neg b01T]; exact BO_cellOf_spec hp h, fun th post h => by unfold MO_told; rw [if_neg e0, if_neg e1, if_neg e2, if_neg e3, if_neg e4, if_neg e5, if_neg e6, if_pos e7, if_neg b01T]; exact MO_number_spec hp h⟩
  by_cases e8 : v = 8
  · cases bd with
    | false => exact ⟨0, fun post h => by unfold PB_told; rw [if_neg e0, if_neg e1, if_neg e2, if_neg e3, if_neg e4, if_neg e5, if_neg e6, if_neg e7, if_pos e8]; refine BO_isThere_spec hp ?_; rw [if_pos b01F]; exact h, fun th post h => by unfold MO_told; rw [if_neg e0, if_neg e1, if_neg e2, if_neg e3, if_neg e4, if_neg e5, if_neg e6, if_neg e7, if_pos e8, if_pos b01F]; exact h⟩
    | true =>
      refine ⟨if gl &&& (bx ^^^ (-1)) = 0 then 1 else 0, fun post h => ?_, fun th post h => ?_⟩
      · unfold PB_told
        rw [if_neg e0, if_neg e1, if_neg e2, if_neg e3, if_neg e4, if_neg e5, if_neg e6, if_neg e7, if_pos e8]
        refine BO_isThere_spec hp ?_
        rw [if_neg b01T]
        refine BO_isDone_spec (fun d => ?_) (fun d => ?_)
        · rw [if_pos d] at h; rw [if_neg one_ne0]; exact h
        · rw [if_neg d] at h; rw [if_pos rfl]; exact h
      · unfold MO_told
        rw [if_neg e0, if_neg e1, if_neg e2, if_neg e3, if_neg e4, if_neg e5, if_neg e6, if_neg e7, if_pos e8, if_neg b01T]
        refine MO_isDone_spec (fun d => ?_) (fun d => ?_)
        · rw [if_pos d] at h; rw [if_neg one_ne0]; exact h
        · rw [if_neg d] at h; rw [if_pos rfl]; exact h
  · exact ⟨-1, fun post h => by unfold PB_told; rw [if_neg e0, if_neg e1, if_neg e2, if_neg e3, if_neg e4, if_neg e5, if_neg e6, if_neg e7, if_neg e8]; exact h, fun th post h => by unfold MO_told; rw [if_neg e0, if_neg e1, if_neg e2, if_neg e3, if_neg e4, if_neg e5, if_neg e6, if_neg e7, if_neg e8]; exact h⟩
theorem bit_and0 {x : Int64} {k : Nat} (hk : k < 64) : bit k &&& x = 0 ↔ tb x k = false := by
  rw [bit_and hk]
  cases q : tb x k with
  | true => rw [if_pos rfl]; exact ⟨fun h => absurd h (bit_ne0 hk), fun h => by cases h⟩
  | false => rw [if_neg (by decide)]; exact ⟨fun _ => rfl, fun _ => rfl⟩
/-- the sign at a cell -/
def sgF (fl gl bx : Int64) (p c : Nat) : Int32 := if tb fl c = true then (if tb bx c = true then (if tb gl c = true then 42 else 36) else if c = p then (if tb gl c = true then 43 else 64) else (if tb gl c = true then 46 else 32)) else 35
theorem BO_signAt_spec {fl gl bx : Int64} {p c : Nat} (hp : p < 64) (hc : c < 64) {post : Int32 → Prop} (h : post (sgF fl gl bx p c)) : BO_signAt fl gl bx (bit p) (bit c) post := by
  have key : ∀ g : Bool, tb gl c = g → BO_signAt_16 fl gl bx (bit p) post (bit c) (b01 g) := fun g eg => by
    unfold BO_signAt_16
    unfold sgF at h
    rw [eg] at h
    cases e1 : tb fl c with
    | false =>
      rw [e1, if_neg Bool.false_ne_true] at h
      rw [if_pos ((bit_and0 hc).mpr e1)]; exact h
    | true =>
      rw [e1, if_pos rfl] at h
      rw [if_neg (fun q => by rw [(bit_and0 hc).mp q] at e1; cases e1)]
      cases e2 : tb bx c with
      | true =>
        rw [e2, if_pos rfl] at h
        rw [if_neg (fun q => by rw [(bit_and0 hc).mp q] at e2; cases e2)]
        cases g with
        | true => rw [if_neg b01T]; exact h
        | false => rw [if_pos b01F]; exact h
      | false =>
        rw [e2, if_neg Bool.false_ne_true] at h
        rw [if_pos ((bit_and0 hc).mpr e2)]
        by_cases e3 : c = p
        · rw [if_pos e3] at h
          rw [if_neg (fun q => by have := (bit_and0 hc).mp q; rw [tb_bit hp, decide_eq_true e3] at this; cases this)]
          cases g with
          | true => rw [if_neg b01T]; exact h
          | false => rw [if_pos b01F]; exact h
        · rw [if_neg e3] at h
          rw [if_pos ((bit_and0 hc).mpr (by rw [tb_bit hp, decide_eq_false e3]))]
          cases g with
          | true => rw [if_neg b01T]; exact h
          | false => rw [if_pos b01F]; exact h
  unfold BO_signAt
  cases e : tb gl c with
  | true => rw [if_neg (fun q => by rw [(bit_and0 hc).mp q] at e; cases e)]; exact key true e
  | false => rw [if_pos ((bit_and0 hc).mpr e)]; exact key false e
theorem pic_both {W H p : Nat} {fl gl bx : Int64} {v : Int32} {bd : Bool} (hW : W ≤ 8) (hH : H ≤ 8) (hp : p < 64) (hbd : bd = false → W = 0 ∧ H = 0) : ∃ r, (∀ post : Int32 → Prop, post r → PB_picture (nI W) (nI H) fl gl bx (psL bd p) v post) ∧ (∀ th (post : Int32 → Int32 → Prop), post r 0 → MO_picture (nI W) (nI H) (nI p) fl gl bx th v post) := by
  have em : (nI W + 1) * nI H = nI ((W + 1) * H) := by rw [nI_1, pk_mul]
  have hWH : (W + 1) * H ≤ 72 := Nat.mul_le_mul (show W + 1 ≤ 9 by omega) hH
  have hz : ¬ nI W + 1 = 0 := by rw [nI_1]; exact nI_ne0 (by omega) (by omega)
  by_cases e0 : v < 0
  · exact ⟨-1, fun post h => by unfold PB_picture; intro v2 ev2; rw [if_pos e0]; exact h, fun th post h => by unfold MO_picture; rw [if_pos e0]; exact h⟩
  by_cases e1 : v < (nI W + 1) * nI H
  · obtain ⟨k, hk, ek⟩ := nI_of e0
    subst ek
    have e1' := e1
    rw [em, nI_ltI hk (by omega)] at e1'
    have ht : bd = true := by
      cases bd with
      | true => rfl
      | false => obtain ⟨a, b⟩ := hbd rfl; subst b; omega
    subst ht
    have er : nI k - nI k / (nI W + 1) * (nI W + 1) = nI (k % (W + 1)) := by rw [nI_1]; exact pk_rem hk (by omega) (by omega)
    have ed : nI k / (nI W + 1) = nI (k / (W + 1)) := by rw [nI_1]; exact pk_div hk (by omega) (by omega)
    have hr : k % (W + 1) < W + 1 := Nat.mod_lt _ (by omega)
    have hd : k / (W + 1) < H := Nat.div_lt_of_lt_mul e1'
    by_cases e2 : k % (W + 1) = W
    · refine ⟨10, fun post h => ?_, fun th post h => ?_⟩
      · unfold PB_picture
        intro v2 ev2
        subst ev2
        rw [if_neg e0, if_pos e1]
        refine ⟨hz, fun v3 ev3 => ?_⟩
        rw [if_pos (by rw [ev3, er, e2])]; exact h
      · unfold MO_picture
        rw [if_neg e0, if_pos e1]
        refine ⟨hz, fun v3 ev3 => ?_⟩
        rw [if_pos (by rw [ev3, er, e2])]; exact h
    · have hc : 8 * (k / (W + 1)) + k % (W + 1) < 64 := by omega
      refine ⟨sgF fl gl bx p (8 * (k / (W + 1)) + k % (W + 1)), fun post h => ?_, fun th post h => ?_⟩
      · unfold PB_picture
        intro v2 ev2
        subst ev2
        rw [if_neg e0, if_pos e1]
        refine ⟨hz, fun v3 ev3 => ?_⟩
        rw [er] at ev3
        subst ev3
        rw [if_neg (fun q => e2 ((nI_eq (by omega) (by omega)).mp q)), ed]
        refine ⟨hz, ?_⟩
        unfold PB_cellAt
        rw [show (8 : Int32) = nI 8 from rfl, pk_mul, nI_add]
        exact BO_signAt_spec hp hc h
      · unfold MO_picture
        rw [if_neg e0, if_pos e1]
        refine ⟨hz, fun v3 ev3 => ?_⟩
        rw [er] at ev3
        subst ev3
        rw [if_neg (fun q => e2 ((nI_eq (by omega) (by omega)).mp q)), ed]
        refine ⟨hz, fun v4 ev4 => ?_⟩
        rw [show (8 : Int32) = nI 8 from rfl, pk_mul, nI_add] at ev4
        generalize 8 * (k / (W + 1)) + k % (W + 1) = c at hc h ev4
        subst ev4
        unfold sgF at h
        refine MO_has_spec hc ?_
        cases f1 : tb fl c with
        | false => rw [f1, if_neg Bool.false_ne_true] at h; rw [if_pos b01F]; exact h
        | true =>
          rw [f1, if_pos rfl] at h
          rw [if_neg b01T]
          refine MO_has_spec hc ?_
          cases f2 : tb bx c with
          | true =>
            rw [f2, if_pos rfl] at h
            rw [if_neg b01T]
            refine MO_has_spec hc ?_
            cases f3 : tb gl c with
            | true => rw [f3] at h; rw [if_neg b01T]; exact h
            | false => rw [f3] at h; rw [if_pos b01F]; exact h
          | false =>
            rw [f2, if_neg Bool.false_ne_true] at h
            rw [if_pos b01F]
            by_cases f4 : c = p
            · rw [if_pos f4] at h
              rw [if_pos (by rw [f4])]
              refine MO_has_spec hc ?_
              cases f3 : tb gl c with
              | true => rw [f3] at h; rw [if_neg b01T]; exact h
              | false => rw [f3] at h; rw [if_pos b01F]; exact h
            · rw [if_neg f4] at h
              rw [if_neg (fun q => f4 ((nI_eq (by omega) (by omega)).mp q))]
              refine MO_has_spec hc ?_
              cases f3 : tb gl c with
              | true => rw [f3] at h; rw [if_neg b01T]; exact h
              | false => rw [f3] at h; rw [if_pos b01F]; exact h
  · exact ⟨-1, fun post h => by unfold PB_picture; intro v2 ev2; subst ev2; rw [if_neg e0, if_neg e1]; exact h, fun th post h => by unfold MO_picture; rw [if_neg e0, if_neg e1]; exact h⟩
theorem hv_8 {fl : Int64} : ∀ k M bx p, hv fl k M bx p → ∀ i, i < k → M i < 8 := by
  intro k
  induction k with
  | zero => intro M bx p _ i h; exact absurd h (Nat.not_lt_zero _)
  | succ k ih =>
    intro M bx p h i hi
    obtain ⟨h0, q, -, -, -, h4⟩ := h
    by_cases e : i = k
    · rw [e]; exact h0
    · rcases h4 with ⟨-, h5⟩ | ⟨-, r, -, -, h5⟩
      · exact ih M _ _ h5 i (by omega)
      · exact ih M _ _ h5 i (by omega)
theorem jLet_v : ∀ k, k < 8 → jLet k = (if k < 4 then (if k % 4 = 0 then 114 else if k % 4 = 1 then 100 else if k % 4 = 2 then 108 else 117) else (if k % 4 = 0 then 114 else if k % 4 = 1 then 100 else if k % 4 = 2 then 108 else 117) - (32 : Int32)) := by decide +kernel
theorem letter_both {kp en : Nat} {M : Nat → Nat} {ma dn : Nat → Int32} {v : Int32} (hc : clR kp M en ma) (hr : rfR kp M dn) (h8 : ∀ i, i < kp → M i < 8) : ∃ r, (∀ post : Int32 → Prop, post r → PB_letter (nI kp) (nI en) ma v post) ∧ (∀ th (post : Int32 → Int32 → Prop), post r 0 → MO_letter (nI kp) dn th v post) := by
  have hkp := hc.2.1
  have hen := hc.1
  by_cases e0 : v < 0
  · exact ⟨-1, fun post h => by unfold PB_letter; rw [if_pos e0]; exact h, fun th post h => by unfold MO_letter; rw [if_pos e0]; exact h⟩
  by_cases e1 : v < nI kp
  · obtain ⟨i, hi, ei⟩ := nI_of e0
    subst ei
    have e1' := e1
    rw [nI_ltI hi (by omega)] at e1'
    have hm := h8 i e1'
    refine ⟨jLet (M i), fun post h => ?_, fun th post h => ?_⟩
    · unfold PB_letter LO_letterAt
      rw [if_neg e0, if_pos e1]
      have ex : (((nI en + (500 : Int32)) - nI kp) + nI i) - (((nI en + (500 : Int32)) - nI kp) + nI i) / (500 : Int32) * (500 : Int32) = nI ((en + 500 - kp + i) % 500) := by
        rw [show (500 : Int32) = nI 500 from rfl, nI_add, pk_sub (by omega), nI_add, pk_rem (by omega) (by decide) (by decide)]
      rw [ex]
      have hlt : (en + 500 - kp + i) % 500 < 500 := Nat.mod_lt _ (by decide)
      refine ⟨vp_inN hlt (by decide), fun v2 e2 z ez => ?_⟩
      rw [nI_clamp (by omega), hc.2.2 i e1'] at e2
      rw [e2, show (8 : Int32) - (1 : Int32) = 7 by decide, show nI (M i) &&& (7 : Int32) = nI (M i % 8) from pk_andN (by omega) 3 (by decide), Nat.mod_eq_of_lt hm] at ez
      subst ez
      refine ⟨vp_inN hm (by decide), ?_⟩
      rw [nI_clamp (by omega)]; exact h
    · unfold MO_letter
      rw [if_neg e0, if_pos e1]
      rw [jLet_v (M i) hm] at h
      refine ⟨vp_inN (by omega) (by decide), fun v2 e2 => ?_⟩
      rw [nI_clamp (by omega), hr i e1', show (4 : Int32) = nI 4 from rfl, pk_rem (by omega) (by decide) (by decide)] at e2
      have key : ∀ t0 : Int32, post (if M i < 4 then t0 else t0 - 32) 0 → MO_letter_59 (nI kp) dn post 0 (nI i) t0 := fun t0 ht => by
        unfold MO_letter_59
        refine ⟨vp_inN (by omega) (by decide), ?_⟩
        rw [nI_clamp (by omega), hr i e1']
        by_cases g : M i < 4
        · rw [if_pos g] at ht
          rw [if_pos (show nI (M i) ≤ (3 : Int32) from nI_le (show M i ≤ 3 by omega) (by decide))]; exact ht
        · rw [if_neg g] at ht
          rw [if_neg (show ¬ nI (M i) ≤ (3 : Int32) from nI_ge (show 3 < M i by omega) (by omega))]; exact ht
      subst e2
      have h4 : M i % 4 < 4 := Nat.mod_lt _ (by decide)
      by_cases g0 : M i % 4 = 0
      · rw [if_pos g0] at h
        rw [if_pos (by rw [g0]; rfl)]
        exact key _ h
      rw [if_neg g0] at h
      rw [if_neg (nI_ne0 (by omega) (by omega))]
      by_cases g1 : M i % 4 = 1
      · rw [if_pos g1] at h
        rw [if_pos (by rw [g1]; rfl)]
        exact key _ h
      rw [if_neg g1] at h
      rw [if_neg (neK (k := 1) g1 (by omega) (by decide))]
      by_cases g2 : M i % 4 = 2
      · rw [if_pos g2] at h
        rw [if_pos (by rw [g2]; rfl)]
        exact key _ h
      rw [if_neg g2] at h
      rw [if_neg (neK (k := 2) g2 (by omega) (by decide))]
      exact key _ h
  · exact ⟨-1, fun post h => by unfold PB_letter; rw [if_neg e0, if_neg e1]; exact h, fun th post h => by unfold MO_letter; rw [if_neg e0, if_neg e1]; exact h⟩
theorem reach_both {W H p : Nat} {fl bx : Int64} {bd : Bool} (hW : W ≤ 8) (hH : H ≤ 8) (hfl : onB W H fl) (hp : p < 64) (hbd : bd = true → tb fl p = true) : ∃ r, (∀ post : Int32 → Prop, post r → PB_reach fl bx (psL bd p) post) ∧ (∀ th (post : Int32 → Int32 → Prop), post r 0 → MO_reach (b01 bd) (nI W) (nI H) (nI p) fl bx th post) := by
  cases bd with
  | false =>
    refine ⟨0, fun post h => ?_, fun th post h => ?_⟩
    · refine BO_reachOf_spec (fun X hX => JL_bitCount_spec ?_)
      have : X = 0 := hX.2.2.zero
      rw [this, cnt_zero]; exact h
    · unfold MO_reach; rw [if_pos b01F]; exact h
  | true =>
    refine ⟨nI (cnt (rchF fl bx (bit p))), fun post h => ?_, fun th post h => ?_⟩
    · exact BO_reach_low hp (fun _ _ => JL_bitCount_spec h)
    · unfold MO_reach
      rw [if_neg b01T]
      exact MO_reach_low hW hH hfl hp (hbd rfl) (fun _ _ => MO_countOf_spec h)
theorem fast_both {W H : Nat} {fl gl lv bx : Int64} (hW : W ≤ 8) (hH : H ≤ 8) (hfl : onB W H fl) (hgl : sub gl fl) (hbx : sub bx fl) (hn : cnt bx ≤ 12) (hlv : isCl (El fl) gl lv) : ∃ r, (∀ post : Int32 → Prop, post r → PB_fast fl bx (sh lv 0 ||| sh lv 2) (sh lv 1 ||| sh lv 3) post) ∧ (∀ th (post : Int32 → Int32 → Prop), post r 0 → MO_fast (nI W) (nI H) fl gl bx th post) := by
  refine ⟨nI (cnt (stF fl lv bx)), fun post h => ?_, fun th post h => ?_⟩
  · refine BO_standing_spec hn (fun X hX => JL_bitCount_spec ?_)
    rw [stF_eq hX]; exact h
  · refine MO_live_spec hW hH hfl (hfl.sub hgl) (fun X hX => ?_)
    have : X = lv := hX.uniq hlv
    subst this
    refine MO_fastOf_spec hW hH hfl (hfl.sub (live_sub (W := W) (H := H) hX hgl)) (hfl.sub hbx) (fun Z hZ => MO_countOf_spec ?_)
    rw [stF_eq hZ]; exact h
theorem stuck_both {W H : Nat} {fl gl lv bx : Int64} (hW : W ≤ 8) (hH : H ≤ 8) (hfl : onB W H fl) (hgl : sub gl fl) (hbx : sub bx fl) (hn : cnt bx ≤ 12) (hlv : isCl (El fl) gl lv) : ∃ r, (∀ post : Int32 → Prop, post r → PB_stuck fl gl bx (sh lv 0 ||| sh lv 2) (sh lv 1 ||| sh lv 3) post) ∧ (∀ th (post : Int32 → Int32 → Prop), post r 0 → MO_stuck (nI W) (nI H) fl gl bx th post) := by
  refine ⟨if stF fl lv bx &&& (gl ^^^ (-1)) = 0 then 0 else 1, fun post h => ?_, fun th post h => ?_⟩
  · refine BO_isStuck_spec hn (fun e => ?_) (fun e => ?_)
    · rw [if_pos e] at h; exact ⟨Or.inl rfl, h⟩
    · rw [if_neg e] at h; exact ⟨Or.inr rfl, h⟩
  · refine MO_live_spec hW hH hfl (hfl.sub hgl) (fun X hX => ?_)
    have : X = lv := hX.uniq hlv
    subst this
    refine MO_fastOf_spec hW hH hfl (hfl.sub (live_sub (W := W) (H := H) hX hgl)) (hfl.sub hbx) (fun Z hZ => ?_)
    rw [stF_eq hZ]
    by_cases e : stF fl X bx &&& (gl ^^^ (-1)) = 0
    · rw [if_pos e] at h ⊢; exact h
    · rw [if_neg e] at h ⊢; exact h
