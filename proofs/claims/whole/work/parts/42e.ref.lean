/-! the reference's loops -/
def rRelS (S : SSt) (xb : Nat → Int64) (xc xf xy xs : Nat → Int32) : Prop := rRel S.1 S.2.1 S.2.2.1 S.2.2.2.1 S.2.2.2.2 xb xc xf xy xs
theorem MO_isDone_spec {gl B : Int64} {post : Int32 → Prop} (h1 : gl &&& (B ^^^ (-1)) = 0 → post 1) (h0 : ¬ gl &&& (B ^^^ (-1)) = 0 → post 0) : MO_isDone gl B post := by
  unfold MO_isDone
  by_cases e : gl &&& (B ^^^ (-1)) = 0
  · rw [if_pos e]; exact h1 e
  · rw [if_neg e]; exact h0 e
theorem rch_on {W H c : Nat} {fl B : Int64} (hc : c < 64) (hfc : tb fl c = true) (hfl : onB W H fl) : onB W H (rchF fl B (bit c)) := fun i hi e => by
  obtain ⟨X, hX⟩ : ∃ X, isCl (Er (fl &&& (B ^^^ (-1)))) (bit c) X := cl_ex _ _
  have := rchF_eq hX
  rw [← this] at e
  exact hfl i hi (rch_low hc hfc hX e)
theorem ref_come {fl gl lv B' : Int64} {most W H nb' par c : Nat} {S : SSt} {Q : SSt × Nat} {pw : Nat} {xb : Nat → Int64} {xc xf xy xs : Nat → Int32} {K : Int32 → (Nat → Int64) → (Nat → Int32) → (Nat → Int32) → (Nat → Int32) → (Nat → Int32) → Prop} {post : Int32 → Int32 → (Nat → Int64) → (Nat → Int32) → (Nat → Int32) → (Nat → Int32) → (Nat → Int32) → Prop}
    (hW : W ≤ 8) (hH : H ≤ 8) (hfl : onB W H fl) (hc : c < 64) (hfc : tb fl c = true) (hmost : most ≤ 10000) (hs : sK fl nb' most S) (hR : rRelS S xb xc xf xy xs) (hQ : comeF fl gl lv most S B' c par (puI W c pw) = Q)
    (h0 : Q.2 = 0 → ∀ xb xc xf xy xs, rRelS Q.1 xb xc xf xy xs → K (nI Q.1.1) xb xc xf xy xs)
    (h1 : Q.2 = 1 → ∀ xb xc xf xy xs, rRelS Q.1 xb xc xf xy xs → post (nI (Q.1.1 - 1)) (nI Q.1.1) xb xc xf xy xs)
    (h2 : Q.2 = 2 → ∀ mm xb xc xf xy xs, post (-2) mm xb xc xf xy xs) :
    if stF fl lv B' &&& (gl ^^^ (-1)) = 0 then
      MO_number (nI W) (nI c) (fun r_11 => MO_isNew (nI W) (nI H) fl (nI S.1) xb xc xf xy xs B' (nI c) (nI par) (((4 : Int32) * r_11) + nI pw) (fun r_12 mm a1 a2 a3 a4 a5 =>
        if r_12 = 0 then K mm a1 a2 a3 a4 a5 else
        if mm ≤ nI most then MO_isDone gl B' (fun r_19 => if r_19 = 0 then K mm a1 a2 a3 a4 a5 else post (mm - (1 : Int32)) mm a1 a2 a3 a4 a5)
        else post (-2 : Int32) mm a1 a2 a3 a4 a5))
    else K (nI S.1) xb xc xf xy xs := by
  have hsm := hs.2
  have hS := hs.1.1
  clear hs
  unfold comeF at hQ
  by_cases z : stF fl lv B' &&& (gl ^^^ (-1)) = 0
  · rw [if_pos z] at hQ
    rw [if_pos z]
    refine MO_number_spec hc ?_
    refine MO_isNew_spec (par := par) hW hH hfl hc hfc hR (by omega) (fun i hi => (hS i hi).1) (fun _ => rfl) (fun hk => ?_) (fun hk xb' xc' xf' xy' xs' r1 => ?_)
    · rw [if_pos hk] at hQ
      rw [if_pos rfl]
      subst hQ
      exact h0 rfl _ _ _ _ _ hR
    · rw [if_neg (by rw [hk]; decide)] at hQ
      rw [if_neg one_ne0]
      by_cases y : most ≤ S.1
      · rw [if_pos y] at hQ
        rw [if_neg (nI_ge (by omega) (by omega))]
        subst hQ
        exact h2 rfl _ xb' xc' xf' xy' xs'
      · rw [if_neg y] at hQ
        rw [if_pos (nI_le (by omega) (by omega))]
        refine MO_isDone_spec (fun d => ?_) (fun d => ?_)
        · rw [if_pos d] at hQ
          rw [if_neg one_ne0]
          subst hQ
          have := h1 rfl xb' xc' xf' xy' xs' r1
          rw [show (1 : Int32) = nI 1 from rfl, pk_sub (by omega)]
          exact this
        · rw [if_neg d] at hQ
          rw [if_pos rfl]
          subst hQ
          exact h0 rfl _ _ _ _ _ r1
  · rw [if_neg z] at hQ
    rw [if_neg z]
    subst hQ
    exact h0 rfl _ _ _ _ _ hR
theorem ref_way {fl gl lv B X : Int64} {most W H nb' par c : Nat} {ps : Int32} {bx : Int64} {R : SSt × Nat} {k98 : Int32 → (Nat → Int64) → (Nat → Int32) → (Nat → Int32) → (Nat → Int32) → (Nat → Int32) → Int32 → Int64 → Int32 → Int64 → Int64 → Int32 → Prop} {post : Int32 → Int32 → (Nat → Int64) → (Nat → Int32) → (Nat → Int32) → (Nat → Int32) → (Nat → Int32) → Prop}
    (hW : W ≤ 8) (hH : H ≤ 8) (hfl : onB W H fl) (hX : onB W H X) (hc : c < 64) (hlv : sub lv fl) (hB : sub B fl) (hBn : cnt B = nb') (hbc : tb B c = true) (hmost : most ≤ 10000)
    (h0 : R.2 = 0 → ∀ xb xc xf xy xs, rRelS R.1 xb xc xf xy xs → k98 (nI R.1.1) xb xc xf xy xs (nI most) lv (nI par) B X (nI (c + 1)))
    (h1 : R.2 = 1 → ∀ xb xc xf xy xs, rRelS R.1 xb xc xf xy xs → post (nI (R.1.1 - 1)) (nI R.1.1) xb xc xf xy xs)
    (h2 : R.2 = 2 → ∀ mm xb xc xf xy xs, post (-2) mm xb xc xf xy xs) :
    ∀ n w S xb xc xf xy xs, w + n = 4 → wayL fl gl lv most W B X par c n w S = R → rRelS S xb xc xf xy xs → sK fl nb' most S → par < S.1 →
    MO_spread_108 (nI W) (nI H) ps fl gl bx k98 post (n + 1) (nI S.1) xb xc xf xy xs (nI most) lv (nI par) B X (nI c) (nI w) := by
  intro n
  induction n with
  | zero =>
    intro w S xb xc xf xy xs hw hF hR hs hp
    have hw4 : w = 4 := by omega
    subst hw4
    unfold MO_spread_108
    rw [if_pos (kL (Nat.le_refl 4) (by decide)), nI_1]
    have e1 : R = (S, 0) := hF.symm
    have := h0 (by rw [e1]) xb xc xf xy xs (by rw [e1]; exact hR)
    rw [e1] at this
    exact this
  | succ n ih =>
    intro w S xb xc xf xy xs hw hF hR hs hp
    have hw4 : w < 4 := by omega
    unfold wayL at hF
    unfold MO_spread_108
    rw [if_neg (kG hw4 (by decide)), nI_1, nI_1]
    refine MO_has_spec hc ?_
    rw [hbc, if_neg b01T]
    have skip : pshF lv B X c w = none → MO_spread_108 (nI W) (nI H) ps fl gl bx k98 post (n + 1) (nI S.1) xb xc xf xy xs (nI most) lv (nI par) B X (nI c) (nI (w + 1)) := fun e => by
      rw [e] at hF
      exact ih (w + 1) S xb xc xf xy xs (by omega) hF hR hs hp
    refine MO_beside_c hW hH hc hw4 (fun t e ht hon => ?_) (fun hno => ?_)
    · refine MO_against_spec hw4 (MO_beside_spec hW hH hc (opp_lt w) (has_bes hc (opp_lt w) hX ?_))
      by_cases g : (nb (opp w) c).any (fun j => tb X j) = true
      · rw [g, if_neg b01T]
        refine MO_has_spec ht ?_
        by_cases q1 : tb fl t = true
        · rw [q1, if_neg b01T]
          refine MO_has_spec ht ?_
          by_cases q2 : tb B t = true
          · rw [q2, if_neg b01T]
            exact skip (by unfold pshF; rw [e]; exact if_neg (fun h => by rw [q2] at h; cases h.2.1))
          · have q2' := Bool.eq_false_iff.mpr q2
            rw [q2', if_pos b01F]
            refine MO_has_spec ht ?_
            by_cases q3 : tb lv t = true
            · rw [q3, if_neg b01T]
              intro v12 e12
              have hps : pshF lv B X c w = some t := by unfold pshF; rw [e]; exact if_pos ⟨q3, q2', g⟩
              rw [hps] at hF
              dsimp only at hF
              obtain ⟨p1, p2, p3⟩ := psh_box hc hw4 hlv hB hBn hbc hps
              obtain ⟨k1, k2⟩ := comeF_k (gl := gl) (lv := lv) (pu := puI W c w) hs hc (hB c hc hbc) p2 p3 hp
              have e12' : v12 = (B &&& (bit c ^^^ (-1))) ||| bit t := e12
              subst e12'
              refine MO_fastOf_spec hW hH hfl (hfl.sub hlv) (hfl.sub p2) (fun Z hZ => ?_)
              rw [stF_eq hZ]
              generalize hQ : comeF fl gl lv most S ((B &&& (bit c ^^^ (-1))) ||| bit t) c par (puI W c w) = Q at hF k1 k2
              refine ref_come (W := W) (par := par) hW hH hfl hc (hB c hc hbc) hmost hs hR hQ (K := fun mm a1 a2 a3 a4 a5 => MO_spread_108 (nI W) (nI H) ps fl gl bx k98 post (n + 1) mm a1 a2 a3 a4 a5 (nI most) lv (nI par) B X (nI c) (nI (w + 1))) (fun z xb' xc' xf' xy' xs' r1 => ?_) (fun z xb' xc' xf' xy' xs' r1 => ?_) (fun z mm xb' xc' xf' xy' xs' => ?_)
              · rw [if_pos z] at hF
                exact ih (w + 1) Q.1 xb' xc' xf' xy' xs' (by omega) hF r1 k1 (Nat.lt_of_lt_of_le hp k2.1)
              · rw [if_neg (fun h => by rw [z] at h; cases h)] at hF
                subst hF
                exact h1 z xb' xc' xf' xy' xs' r1
              · rw [if_neg (fun h => by rw [z] at h; cases h)] at hF
                subst hF
                exact h2 z mm xb' xc' xf' xy' xs'
            · rw [Bool.eq_false_iff.mpr q3, if_pos b01F]
              exact skip (by unfold pshF; rw [e]; exact if_neg (fun h => q3 h.1))
        · rw [Bool.eq_false_iff.mpr q1, if_pos b01F]
          exact skip (by unfold pshF; rw [e]; exact if_neg (fun h => q1 (hlv t ht h.1)))
      · rw [Bool.eq_false_iff.mpr g, if_pos b01F]
        exact skip (by unfold pshF; rw [e]; exact if_neg (fun h => g h.2.2))
    · have hsk := skip (by
        unfold pshF
        cases e : nb w c with
        | none => rfl
        | some t =>
          have ht := nb_lt w hw4 c hc t e
          exact if_neg (fun h => hno t e (hfl t ht (hlv t ht h.1))))
      refine MO_against_spec hw4 (MO_beside_spec hW hH hc (opp_lt w) (has_bes hc (opp_lt w) hX ?_))
      by_cases g : (nb (opp w) c).any (fun j => tb X j) = true
      · rw [g, if_neg b01T]
        refine MO_has_neg ?_
        rw [if_pos rfl]
        exact hsk
      · rw [Bool.eq_false_iff.mpr g, if_pos b01F]
        exact hsk
theorem ref_cell {fl gl lv B X : Int64} {most W H nb' par : Nat} {ps : Int32} {bx : Int64} {R : SSt × Nat} {k62 : Int32 → (Nat → Int64) → (Nat → Int32) → (Nat → Int32) → (Nat → Int32) → (Nat → Int32) → Int32 → Int64 → Int32 → Prop} {post : Int32 → Int32 → (Nat → Int64) → (Nat → Int32) → (Nat → Int32) → (Nat → Int32) → (Nat → Int32) → Prop}
    (hW : W ≤ 8) (hH : H ≤ 8) (hfl : onB W H fl) (hX : onB W H X) (hlv : sub lv fl) (hB : sub B fl) (hBn : cnt B = nb') (hmost : most ≤ 10000)
    (h0 : R.2 = 0 → ∀ xb xc xf xy xs, rRelS R.1 xb xc xf xy xs → k62 (nI R.1.1) xb xc xf xy xs (nI most) lv (nI (par + 1)))
    (h1 : R.2 = 1 → ∀ xb xc xf xy xs, rRelS R.1 xb xc xf xy xs → post (nI (R.1.1 - 1)) (nI R.1.1) xb xc xf xy xs)
    (h2 : R.2 = 2 → ∀ mm xb xc xf xy xs, post (-2) mm xb xc xf xy xs) :
    ∀ n c S xb xc xf xy xs, c + n = 64 → cellL fl gl lv most W B X par n c S = R → rRelS S xb xc xf xy xs → sK fl nb' most S → par < S.1 →
    MO_spread_98 (nI W) (nI H) ps fl gl bx k62 post (n + 1) (nI S.1) xb xc xf xy xs (nI most) lv (nI par) B X (nI c) := by
  intro n
  induction n with
  | zero =>
    intro c S xb xc xf xy xs hc hF hR hs hp
    have hc64 : c = 64 := by omega
    subst hc64
    unfold MO_spread_98
    rw [if_pos (kL (Nat.le_refl 64) (by decide)), nI_1]
    have e1 : R = (S, 0) := hF.symm
    have := h0 (by rw [e1]) xb xc xf xy xs (by rw [e1]; exact hR)
    rw [e1] at this
    exact this
  | succ n ih =>
    intro c S xb xc xf xy xs hc hF hR hs hp
    have hc64 : c < 64 := by omega
    unfold cellL at hF
    unfold MO_spread_98
    rw [if_neg (kG hc64 (by decide))]
    by_cases q : tb B c = true
    · rw [if_pos q] at hF
      obtain ⟨k1, k2⟩ := wayL_k (gl := gl) (W := W) (X := X) hc64 hlv hB hBn q 4 0 S rfl hs hp
      generalize hQ : wayL fl gl lv most W B X par c 4 0 S = Q at hF k1 k2
      refine ⟨5, ref_way hW hH hfl hX hc64 hlv hB hBn q hmost (fun z xb' xc' xf' xy' xs' r1 => ?_) (fun z xb' xc' xf' xy' xs' r1 => ?_) (fun z mm xb' xc' xf' xy' xs' => ?_) 4 0 S xb xc xf xy xs rfl hQ hR hs hp⟩
      · rw [if_pos z] at hF
        exact ih (c + 1) Q.1 xb' xc' xf' xy' xs' (by omega) hF r1 k1 (Nat.lt_of_lt_of_le hp k2.1)
      · rw [if_neg (by omega)] at hF
        subst hF
        exact h1 z xb' xc' xf' xy' xs' r1
      · rw [if_neg (by omega)] at hF
        subst hF
        exact h2 z mm xb' xc' xf' xy' xs'
    · rw [if_neg q] at hF
      refine ⟨1, ?_⟩
      unfold MO_spread_108
      rw [if_neg (by decide : ¬ (4 : Int32) ≤ 0), nI_1]
      refine MO_has_spec hc64 ?_
      rw [Bool.eq_false_iff.mpr q, if_pos b01F]
      exact ih (c + 1) S xb xc xf xy xs (by omega) hF hR hs hp
/-- the whole course -/
theorem ref_bfs {fl gl lv : Int64} {most W H nb' : Nat} {ps : Int32} {bx : Int64} {R : SSt × Nat} {post : Int32 → Int32 → (Nat → Int64) → (Nat → Int32) → (Nat → Int32) → (Nat → Int32) → (Nat → Int32) → Prop}
    (hW : W ≤ 8) (hH : H ≤ 8) (hfl : onB W H fl) (hlv : sub lv fl) (hmost : most ≤ 10000)
    (h0 : R.2 = 0 → ∀ xb xc xf xy xs, rRelS R.1 xb xc xf xy xs → post (-1) (nI R.1.1) xb xc xf xy xs)
    (h1 : R.2 = 1 → ∀ xb xc xf xy xs, rRelS R.1 xb xc xf xy xs → post (nI (R.1.1 - 1)) (nI R.1.1) xb xc xf xy xs)
    (h2 : R.2 = 2 → ∀ mm xb xc xf xy xs, post (-2) mm xb xc xf xy xs) :
    ∀ n i S xb xc xf xy xs, most < i + n → i ≤ S.1 → bfsL fl gl lv most W n i S = R → rRelS S xb xc xf xy xs → sK fl nb' most S →
    MO_spread_62 (nI W) (nI H) ps fl gl bx post n (nI S.1) xb xc xf xy xs (nI most) lv (nI i) := by
  intro n
  induction n with
  | zero =>
    intro i S xb xc xf xy xs hn hi hF hR hs
    have := hs.2
    omega
  | succ n ih =>
    intro i S xb xc xf xy xs hn hi hF hR hs
    have hsm := hs.2
    unfold bfsL at hF
    unfold MO_spread_62
    by_cases q : S.1 ≤ i
    · rw [if_pos q] at hF
      rw [if_pos (nI_le q (by omega))]
      subst hF
      exact h0 rfl xb xc xf xy xs hR
    · rw [if_neg q] at hF
      rw [if_neg (nI_ge (by omega) (by omega))]
      obtain ⟨a1, a2, a3, a4, a5, a6⟩ := hs.1.1 i (by omega)
      have hin : vp_in (nI i) 10001 := vp_inN (by omega) (by decide)
      refine ⟨hin, fun v5 e5 => ⟨hin, ?_⟩⟩
      rw [nI_clamp (by omega), hR.1 i (by omega)] at e5
      rw [nI_clamp (by omega), hR.2.1 i (by omega)]
      subst e5
      refine MO_reach_low hW hH hfl a1 a6 (fun hX hlow => ?_)
      obtain ⟨k1, k2⟩ := fromL_k (gl := gl) (W := W) hlv hs (by omega : i < S.1)
      generalize hQ : fromL fl gl lv most W i S = Q at hF k1 k2
      refine ⟨65, ref_cell hW hH hfl (rch_on a1 a6 hfl) hlv a4 a5 hmost (fun z xb' xc' xf' xy' xs' r1 => ?_) (fun z xb' xc' xf' xy' xs' r1 => ?_) (fun z mm xb' xc' xf' xy' xs' => ?_) 64 0 S xb xc xf xy xs rfl hQ hR hs (by omega)⟩
      · rw [if_pos z] at hF
        exact ih (i + 1) Q.1 xb' xc' xf' xy' xs' (by omega) (Nat.le_trans (by omega : i + 1 ≤ S.1) k2.1) hF r1 k1
      · rw [if_neg (by omega)] at hF
        subst hF
        exact h1 z xb' xc' xf' xy' xs' r1
      · rw [if_neg (by omega)] at hF
        subst hF
        exact h2 z mm xb' xc' xf' xy' xs'
