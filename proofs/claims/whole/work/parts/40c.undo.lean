/-! what is kept can be undone -/
def hv (fl : Int64) : Nat → (Nat → Nat) → Int64 → Nat → Prop
  | 0, _, _, _ => True
  | k + 1, M, bx, p => M k < 8 ∧ ∃ q, nb (opp (M k % 4)) p = some q ∧ tb fl q = true ∧ tb bx q = false ∧ ((M k < 4 ∧ hv fl k M bx q) ∨ (4 ≤ M k ∧ ∃ r, nb (M k % 4) p = some r ∧ tb bx r = true ∧ hv fl k M ((bx &&& (bit r ^^^ (-1))) ||| bit p) q))
theorem hv_cg {fl : Int64} : ∀ k M M' bx p, (∀ i, i < k → M i = M' i) → hv fl k M bx p → hv fl k M' bx p := by
  intro k
  induction k with
  | zero => intro _ _ _ _ _ _; trivial
  | succ k ih =>
    rintro M M' bx p e ⟨h0, q, h1, h2, h3, h4⟩
    have ek := e k (by omega)
    refine ⟨by rw [← ek]; exact h0, q, by rw [← ek]; exact h1, h2, h3, ?_⟩
    rcases h4 with ⟨h4, h5⟩ | ⟨h4, r, h5, h6, h7⟩
    · exact Or.inl ⟨by rw [← ek]; exact h4, ih M M' bx q (fun i hi => e i (by omega)) h5⟩
    · exact Or.inr ⟨by rw [← ek]; exact h4, r, by rw [← ek]; exact h5, h6, ih M M' _ q (fun i hi => e i (by omega)) h7⟩
theorem hv_drop {fl : Int64} : ∀ k M bx p, hv fl (k + 1) M bx p → hv fl k (fun i => M (i + 1)) bx p := by
  intro k
  induction k with
  | zero => intro _ _ _ _; trivial
  | succ k ih =>
    rintro M bx p ⟨h0, q, h1, h2, h3, h4⟩
    refine ⟨h0, q, h1, h2, h3, ?_⟩
    rcases h4 with ⟨h4, h5⟩ | ⟨h4, r, h5, h6, h7⟩
    · exact Or.inl ⟨h4, ih M bx q h5⟩
    · exact Or.inr ⟨h4, r, h5, h6, ih M _ q h7⟩
def bI (fl bx : Int64) (p : Nat) : Prop := p < 64 ∧ tb fl p = true ∧ tb bx p = false ∧ sub bx fl
theorem nb_twice : ∀ w, w < 4 → ∀ i, i < 64 → ∀ j, j < 64 → nb w i = some j → ¬ nb w j = some i := by decide +kernel
theorem tb_mv {x : Int64} {q r : Nat} (hq : q < 64) (hr : r < 64) (i : Nat) : tb ((x &&& (bit q ^^^ (-1))) ||| bit r) i = ((tb x i && !decide (i = q)) || decide (i = r)) := by rw [tb_orbit hr, tb_clr hq]
theorem mv_back {x : Int64} {q r : Nat} (hq : q < 64) (hr : r < 64) (h1 : tb x q = true) (h2 : tb x r = false) : ((((x &&& (bit q ^^^ (-1))) ||| bit r) &&& (bit r ^^^ (-1))) ||| bit q) = x := tb_ext fun i hi => by
  rw [tb_mv hr hq, tb_mv hq hr]
  by_cases e1 : i = q
  · subst e1; rw [h1]; simp
  · by_cases e2 : i = r
    · subst e2; rw [h2]; simp [e1]
    · simp [e1, e2]
theorem cnt_mv {x : Int64} {q r : Nat} (hq : q < 64) (hr : r < 64) (h1 : tb x q = true) (h2 : tb x r = false) : cnt ((x &&& (bit q ^^^ (-1))) ||| bit r) = cnt x := by
  have a := cnt_fresh (X := x &&& (bit q ^^^ (-1))) hr (by rw [tb_clr hq, h2]; rfl)
  have b := cnt_fresh (X := x &&& (bit q ^^^ (-1))) hq (by rw [tb_clr hq]; simp)
  have e : (x &&& (bit q ^^^ (-1))) ||| bit q = x := tb_ext fun i hi => by
    rw [tb_mv hq hq]
    by_cases e1 : i = q
    · subst e1; rw [h1]; simp
    · simp [e1]
  rw [e] at b
  omega
/-- what a move did -/
theorem goF_cases {fl bx bx' : Int64} {p w q : Nat} {b : Bool} (h : goF fl bx p w = some (q, bx', b)) : nb w p = some q ∧ tb fl q = true ∧ ((b = false ∧ bx' = bx ∧ tb bx q = false) ∨ (b = true ∧ tb bx q = true ∧ ∃ r, nb w q = some r ∧ tb fl r = true ∧ tb bx r = false ∧ bx' = (bx &&& (bit q ^^^ (-1))) ||| bit r)) := by
  unfold goF at h
  cases e : nb w p with
  | none => rw [e] at h; cases h
  | some q1 =>
    rw [e] at h
    dsimp only at h
    by_cases f1 : tb fl q1 = true
    · rw [if_pos f1] at h
      by_cases f2 : tb bx q1 = true
      · rw [if_pos f2] at h
        cases g : nb w q1 with
        | none => rw [g] at h; cases h
        | some r =>
          rw [g] at h
          dsimp only at h
          by_cases f3 : tb fl r = true ∧ tb bx r = false
          · rw [if_pos f3] at h
            cases h
            exact ⟨rfl, f1, Or.inr ⟨rfl, f2, r, g, f3.1, f3.2, rfl⟩⟩
          · rw [if_neg f3] at h; cases h
      · rw [if_neg f2] at h
        cases h
        exact ⟨rfl, f1, Or.inl ⟨rfl, rfl, Bool.eq_false_iff.mpr f2⟩⟩
    · rw [if_neg f1] at h; cases h
theorem go_keep {fl bx bx' : Int64} {p w q kp : Nat} {M : Nat → Nat} {b : Bool} (hw : w < 4) (hkp : kp ≤ 500) (hB : bI fl bx p) (hh : hv fl kp M bx p) (h : goF fl bx p w = some (q, bx', b)) : bI fl bx' q ∧ cnt bx' = cnt bx ∧ hv fl (kpA kp) (addM kp M (mkA w b)) bx' q := by
  obtain ⟨hp, hfp, hbp, hs⟩ := hB
  obtain ⟨h1, h2, h3⟩ := goF_cases h
  have hq := nb_lt w hw p hp q h1
  have hpq := nb_sym hw hp h1
  have hne : ¬ p = q := fun e => nb_ne w hw p hp (by rw [h1, e])
  -- the newest mark, over what was kept
  have top : ∀ k (M' : Nat → Nat), M' k = mkA w b → hv fl k M' bx p → hv fl (k + 1) M' bx' q := fun k M' em hk => by
    rcases h3 with ⟨b1, b2, b3⟩ | ⟨b1, b2, r, b3, b4, b5, b6⟩
    · subst b1 b2
      have em : M' k = w := em
      refine ⟨by omega, p, by rw [em, Nat.mod_eq_of_lt hw]; exact hpq, hfp, hbp, Or.inl ⟨by omega, hk⟩⟩
    · subst b1
      have em : M' k = w + 4 := em
      have hr := nb_lt w hw q hq r b3
      have hmod : M' k % 4 = w := by omega
      refine ⟨by omega, p, by rw [hmod]; exact hpq, hfp, ?_, Or.inr ⟨by omega, r, by rw [hmod]; exact b3, ?_, ?_⟩⟩
      · have hpr : ¬ p = r := fun e => nb_twice w hw p hp q hq h1 (by rw [b3, e])
        rw [b6, tb_mv hq hr, hbp]; simp [hpr]
      · rw [b6, tb_mv hq hr]; simp
      · rw [b6, mv_back hq hr b2 b5]; exact hk
  refine ⟨⟨hq, h2, ?_, ?_⟩, ?_, ?_⟩
  · rcases h3 with ⟨b1, b2, b3⟩ | ⟨b1, b2, r, b3, b4, b5, b6⟩
    · rw [b2]; exact b3
    · have hr := nb_lt w hw q hq r b3
      have hqr : ¬ q = r := fun e => nb_ne w hw q hq (by rw [b3, e])
      rw [b6, tb_mv hq hr]; simp [hqr]
  · rcases h3 with ⟨b1, b2, b3⟩ | ⟨b1, b2, r, b3, b4, b5, b6⟩
    · rw [b2]; exact hs
    · have hr := nb_lt w hw q hq r b3
      intro i hi e
      rw [b6, tb_mv hq hr, Bool.or_eq_true, Bool.and_eq_true] at e
      rcases e with e | e
      · exact hs i hi e.1
      · rw [of_decide_eq_true e]; exact b4
  · rcases h3 with ⟨b1, b2, b3⟩ | ⟨b1, b2, r, b3, b4, b5, b6⟩
    · rw [b2]
    · rw [b6]; exact cnt_mv hq (nb_lt w hw q hq r b3) b2 b5
  · by_cases e : kp = 500
    · subst e
      exact top 499 (addM 500 M (mkA w b)) (addM_t (by decide)) (hv_cg 499 _ _ bx p (fun i hi => (addM_s hi).symm) (hv_drop 499 M bx p hh))
    · rw [kpA_n e]
      exact top kp (addM kp M (mkA w b)) (addM_n e) (hv_cg kp _ _ bx p (fun i hi => (addM_o e (by omega)).symm) hh)
theorem goA_keep {bd : Bool} {fl bx bx' : Int64} {w p q kp kp' : Nat} {M M' : Nat → Nat} {mv pu mv' pu' : Int32} {b : Bool} (hw : w < 4) (hkp : kp ≤ 500) (hB : bI fl bx p) (hh : hv fl kp M bx p) (h : goA bd fl w (p, bx, kp, M, mv, pu) = some (b, q, bx', kp', M', mv', pu')) : bI fl bx' q ∧ cnt bx' = cnt bx ∧ hv fl kp' M' bx' q ∧ kp' ≤ 500 := by
  unfold goA at h
  cases bd with
  | false => rw [if_neg Bool.false_ne_true] at h; cases h
  | true =>
    rw [if_pos rfl] at h
    dsimp only at h
    cases e : goF fl bx p w with
    | none => rw [e] at h; cases h
    | some r =>
      obtain ⟨a, b2, c⟩ := r
      rw [e] at h
      cases h
      obtain ⟨h1, h2, h3⟩ := go_keep hw hkp hB hh e
      exact ⟨h1, h2, h3, kpA_le hkp⟩
theorem goN_keep {bd : Bool} {fl : Int64} {w : Nat} (hw : w < 4) : ∀ n p bx kp M mv pu ok p' bx' kp' M' mv' pu', kp ≤ 500 → bI fl bx p → hv fl kp M bx p → goN bd fl w n (p, bx, kp, M, mv, pu) = (ok, p', bx', kp', M', mv', pu') → bI fl bx' p' ∧ cnt bx' = cnt bx ∧ hv fl kp' M' bx' p' ∧ kp' ≤ 500 := by
  intro n
  induction n with
  | zero => intro p bx kp M mv pu ok p' bx' kp' M' mv' pu' hk hB hh h; cases h; exact ⟨hB, rfl, hh, hk⟩
  | succ n ih =>
    intro p bx kp M mv pu ok p' bx' kp' M' mv' pu' hk hB hh h
    have h : (match goA bd fl w (p, bx, kp, M, mv, pu) with
        | none => (false, (p, bx, kp, M, mv, pu))
        | some (_, A') => goN bd fl w n A') = (ok, p', bx', kp', M', mv', pu') := h
    cases e : goA bd fl w (p, bx, kp, M, mv, pu) with
    | none => rw [e] at h; cases h; exact ⟨hB, rfl, hh, hk⟩
    | some r =>
      obtain ⟨b, q1, bx1, kp1, M1, mv1, pu1⟩ := r
      rw [e] at h
      obtain ⟨a1, a2, a3, a4⟩ := goA_keep hw hk hB hh e
      obtain ⟨c1, c2, c3, c4⟩ := ih q1 bx1 kp1 M1 mv1 pu1 ok p' bx' kp' M' mv' pu' a4 a1 a3 h
      exact ⟨c1, by rw [c2, a2], c3, c4⟩
theorem goN_no {fl : Int64} {w : Nat} {A : Nat × Int64 × Nat × (Nat → Nat) × Int32 × Int32} : ∀ n, (goN false fl w n A).2 = A := by
  intro n
  cases n with
  | zero => rfl
  | succ n => rfl
theorem rowF_keep {bd : Bool} {fl : Int64} {tx : Nat → Int32} : ∀ n i t all p bx kp M mv pu r p' bx' kp' M' mv' pu', kp ≤ 500 → (bd = true → bI fl bx p ∧ hv fl kp M bx p) → rowF bd fl tx n i t all (p, bx, kp, M, mv, pu) = (r, p', bx', kp', M', mv', pu') → kp' ≤ 500 ∧ (bd = true → bI fl bx' p' ∧ cnt bx' = cnt bx ∧ hv fl kp' M' bx' p') ∧ (bd = false → p' = p ∧ bx' = bx ∧ kp' = kp ∧ M' = M ∧ mv' = mv ∧ pu' = pu) := by
  intro n
  induction n with
  | zero =>
    intro i t all p bx kp M mv pu r p' bx' kp' M' mv' pu' hk hB h
    obtain ⟨-, h2⟩ := Prod.mk.inj h
    cases h2
    exact ⟨hk, fun e => ⟨(hB e).1, rfl, (hB e).2⟩, fun _ => ⟨rfl, rfl, rfl, rfl, rfl, rfl⟩⟩
  | succ n ih =>
    intro i t all p bx kp M mv pu r p' bx' kp' M' mv' pu' hk hB h
    have h : (if t = 0 ∧ ¬ tx i < 50 ∧ ¬ 57 < tx i then rowF bd fl tx n (i + 1) ((tx i).toNatClampNeg - 48) all (p, bx, kp, M, mv, pu) else (match wayF (tx i) with
        | none => ((-1 : Int32) - nI i, (p, bx, kp, M, mv, pu))
        | some w => (match goN bd fl w (max t 1) (p, bx, kp, M, mv, pu) with
          | (false, A') => ((-1 : Int32) - nI i, A')
          | (true, A') => rowF bd fl tx n (i + 1) 0 (all + max t 1) A'))) = (r, p', bx', kp', M', mv', pu') := h
    by_cases q : t = 0 ∧ ¬ tx i < 50 ∧ ¬ 57 < tx i
    · rw [if_pos q] at h
      exact ih _ _ _ _ _ _ _ _ _ _ _ _ _ _ _ _ hk hB h
    · rw [if_neg q] at h
      cases ew : wayF (tx i) with
      | none =>
        rw [ew] at h
        obtain ⟨-, h2⟩ := Prod.mk.inj h
        cases h2
        exact ⟨hk, fun e => ⟨(hB e).1, rfl, (hB e).2⟩, fun _ => ⟨rfl, rfl, rfl, rfl, rfl, rfl⟩⟩
      | some w =>
        have hw := wayF_lt ew
        rw [ew] at h
        dsimp only at h
        cases eg : goN bd fl w (max t 1) (p, bx, kp, M, mv, pu) with
        | mk ok A1 =>
          obtain ⟨p1, bx1, kp1, M1, mv1, pu1⟩ := A1
          rw [eg] at h
          cases bd with
          | false =>
            have := goN_no (fl := fl) (w := w) (A := (p, bx, kp, M, mv, pu)) (max t 1)
            rw [eg] at this
            cases this
            cases ok with
            | false =>
              obtain ⟨-, h2⟩ := Prod.mk.inj h
              cases h2
              exact ⟨hk, fun e => Bool.noConfusion e, fun _ => ⟨rfl, rfl, rfl, rfl, rfl, rfl⟩⟩
            | true => exact ih _ _ _ _ _ _ _ _ _ _ _ _ _ _ _ _ hk hB h
          | true =>
            obtain ⟨a1, a2, a3, a4⟩ := goN_keep hw _ _ _ _ _ _ _ _ _ _ _ _ _ _ hk (hB rfl).1 (hB rfl).2 eg
            cases ok with
            | false =>
              obtain ⟨-, h2⟩ := Prod.mk.inj h
              cases h2
              exact ⟨a4, fun _ => ⟨a1, a2, a3⟩, fun e => Bool.noConfusion e⟩
            | true =>
              obtain ⟨c1, c2, c3⟩ := ih _ _ _ _ _ _ _ _ _ _ _ _ _ _ _ _ a4 (fun _ => ⟨a1, a3⟩) h
              refine ⟨c1, fun e => ?_, fun e => Bool.noConfusion e⟩
              obtain ⟨d1, d2, d3⟩ := c2 e
              exact ⟨d1, by rw [d2, a2], d3⟩
/-! undo -/
theorem hv_step {fl bx : Int64} {p k : Nat} {M : Nat → Nat} (hB : bI fl bx p) (h : hv fl (k + 1) M bx p) : ∃ q bx', M k < 8 ∧ nb (opp (M k % 4)) p = some q ∧ q < 64 ∧ bI fl bx' q ∧ cnt bx' = cnt bx ∧ hv fl k M bx' q ∧ ((M k < 4 ∧ bx' = bx) ∨ (4 ≤ M k ∧ ∃ r, r < 64 ∧ nb (M k % 4) p = some r ∧ tb fl r = true ∧ bx' = (bx &&& (bit r ^^^ (-1))) ||| bit p ∧ bx ^^^ (bit p ||| bit r) = bx')) := by
  obtain ⟨hp, hfp, hbp, hs⟩ := hB
  obtain ⟨h0, q, h1, h2, h3, h4⟩ := h
  have hw : M k % 4 < 4 := Nat.mod_lt _ (by decide)
  have hq := nb_lt _ (opp_lt _) p hp q h1
  have hpq : ¬ q = p := fun e => nb_ne _ (opp_lt _) p hp (by rw [h1, e])
  rcases h4 with ⟨h4, h5⟩ | ⟨h4, r, h5, h6, h7⟩
  · exact ⟨q, bx, h0, h1, hq, ⟨hq, h2, h3, hs⟩, rfl, h5, Or.inl ⟨h4, rfl⟩⟩
  · have hr := nb_lt _ hw p hp r h5
    refine ⟨q, _, h0, h1, hq, ⟨hq, h2, ?_, ?_⟩, cnt_mv hr hp h6 hbp, h7, Or.inr ⟨h4, r, hr, h5, hs r hr h6, rfl, ?_⟩⟩
    · rw [tb_mv hr hp, h3]; simp [hpq]
    · intro i hi e
      rw [tb_mv hr hp, Bool.or_eq_true, Bool.and_eq_true] at e
      rcases e with e | e
      · exact hs i hi e.1
      · rw [of_decide_eq_true e]; exact hfp
    · have := xor_move hr hp h6 hbp
      rw [← this]
      exact congrArg _ (tb_ext fun i _ => by rw [tb_or, tb_or, Bool.or_comm])
theorem clR_back {k en : Nat} {M : Nat → Nat} {ma : Nat → Int32} (h : clR (k + 1) M en ma) : clR k M ((en + 499) % 500) ma ∧ ma ((en + 499) % 500) = nI (M k) := by
  obtain ⟨h1, h2, h3⟩ := h
  refine ⟨⟨Nat.mod_lt _ (by decide), by omega, fun i hi => ?_⟩, ?_⟩
  · have := h3 i (by omega)
    rw [show (en + 500 - (k + 1) + i) % 500 = ((en + 499) % 500 + 500 - k + i) % 500 by omega] at this
    exact this
  · have := h3 k (by omega)
    rw [show (en + 500 - (k + 1) + k) % 500 = (en + 499) % 500 by omega] at this
    exact this
theorem PB_undo_spec {fl bx bx' : Int64} {p q k en : Nat} {M : Nat → Nat} {ma : Nat → Int32} {mv pu : Int32} {post : Int32 → Int64 → Int64 → Int32 → Int32 → Int32 → Int32 → Prop} (hp : p < 64) (hc : clR (k + 1) M en ma) (h8 : M k < 8) (hq : nb (opp (M k % 4)) p = some q)
    (hx : (M k < 4 ∧ bx' = bx) ∨ (4 ≤ M k ∧ ∃ r, r < 64 ∧ nb (M k % 4) p = some r ∧ tb fl r = true ∧ bx' = (bx &&& (bit r ^^^ (-1))) ||| bit p ∧ bx ^^^ (bit p ||| bit r) = bx'))
    (h : ∀ en', clR k M en' ma → post (if M k < 4 then 1 else 2) bx' (bit q) (nI k) (mv - 1) (pu - b01 (decide (4 ≤ M k))) (nI en')) : PB_undo ma bx (bit p) (nI (k + 1)) mv pu (nI en) post := by
  obtain ⟨c1, c2⟩ := clR_back hc
  have hk := hc.2.1
  have hen := hc.1
  unfold PB_undo
  rw [if_neg (nI_ne0 (by omega) (by omega))]
  intro e ee
  have ee : e = nI ((en + 499) % 500) := by
    rw [ee, show (500 : Int32) = nI 500 from rfl, show (1 : Int32) = nI 1 from rfl, nI_add, pk_sub (by omega), pk_rem (by omega) (by decide) (by decide), show en + 500 - 1 = en + 499 by omega]
  subst ee
  have hlt : (en + 499) % 500 < 500 := Nat.mod_lt _ (by decide)
  refine ⟨vp_inN hlt (by decide), fun v ev k1 ek m1 em => ?_⟩
  rw [nI_clamp (by omega), c2] at ev
  rw [show (1 : Int32) = nI 1 from rfl, pk_sub (by omega), show k + 1 - 1 = k from rfl] at ek
  subst ev ek em
  have hway : nI (M k) &&& (3 : Int32) = nI (M k % 4) := pk_andN (by omega) 2 (by decide)
  have hw : M k % 4 < 4 := Nat.mod_lt _ (by decide)
  have back : ∀ (post2 : Int64 → Int64 → Prop) X, post2 X (bit q) → BO_goBack_26 post2 X (bit p) (nI (M k % 4)) := fun post2 X hh => by
    refine PB_against_spec hw (PB_shifted_spec (opp_lt _) ?_)
    rw [sh_some (opp_lt _) hp hq]
    exact hh
  have h := h _ c1
  unfold LO_isPush LO_wayOf
  dsimp only
  by_cases e4 : M k < 4
  · rw [if_pos (ltK (k := 4) e4 (by decide)), if_pos rfl]
    intro p1 ep
    rw [if_pos (ltK (k := 4) e4 (by decide)), hway]
    rw [if_pos e4, decide_eq_false (by omega)] at h
    unfold BO_goBack
    rw [if_pos rfl]
    refine back _ bx ?_
    rw [if_pos rfl, ep]
    rcases hx with ⟨-, hx⟩ | ⟨hx, -⟩
    · rw [hx] at h; exact h
    · omega
  · rw [if_neg (nltK (k := 4) (by omega) (by omega)), if_neg (by decide)]
    intro p1 ep
    rw [if_neg (nltK (k := 4) (by omega) (by omega)), hway]
    rw [if_neg e4, decide_eq_true (show 4 ≤ M k by omega)] at h
    rcases hx with ⟨hx, -⟩ | ⟨-, r, hr, hx1, -, hx2, hx3⟩
    · omega
    · unfold BO_goBack
      rw [if_neg (by decide)]
      refine PB_shifted_spec hw ?_
      intro b eb
      rw [sh_some hw hp hx1, hx3] at eb
      refine back _ b ?_
      rw [if_neg (by decide), ep, eb]
      exact h
theorem MO_undo_spec {W H : Nat} {fl bx bx' : Int64} {p q k : Nat} {M : Nat → Nat} {dn : Nat → Int32} {mv pu th : Int32} {post : Int32 → Int32 → Int32 → Int32 → Int32 → Int64 → Int32 → Prop} (hW : W ≤ 8) (hH : H ≤ 8) (hfl : onB W H fl) (hp : p < 64) (hk : k < 500) (hc : rfR (k + 1) M dn) (h8 : M k < 8) (hq : nb (opp (M k % 4)) p = some q) (hfq : tb fl q = true)
    (hx : (M k < 4 ∧ bx' = bx) ∨ (4 ≤ M k ∧ ∃ r, r < 64 ∧ nb (M k % 4) p = some r ∧ tb fl r = true ∧ bx' = (bx &&& (bit r ^^^ (-1))) ||| bit p ∧ bx ^^^ (bit p ||| bit r) = bx'))
    (h : post (if M k < 4 then 1 else 2) 0 (nI q) (mv - 1) (pu - b01 (decide (4 ≤ M k))) bx' (nI k)) : MO_undo (nI W) (nI H) dn th (nI p) mv pu bx (nI (k + 1)) post := by
  have hw : M k % 4 < 4 := Nat.mod_lt _ (by decide)
  have hq64 := nb_lt _ (opp_lt _) p hp q hq
  unfold MO_undo
  rw [if_neg (nI_ne0 (by omega) (by omega))]
  intro k1 ek
  rw [show (1 : Int32) = nI 1 from rfl, pk_sub (by omega), show k + 1 - 1 = k from rfl] at ek
  subst ek
  rw [nI_clamp (by omega), hc k (by omega)]
  refine ⟨vp_inN hk (by decide), fun v1 e1 => ⟨vp_inN hk (by decide), ?_⟩⟩
  rw [show (4 : Int32) = nI 4 from rfl, pk_rem (by omega) (by decide) (by decide)] at e1
  subst e1
  have fin : ∀ X (b : Bool), post (if b = true then 2 else 1) 0 (nI q) (mv - 1) (pu - b01 b) X (nI k) → MO_undo_92 (nI W) (nI H) dn post 0 (nI p) mv pu X (nI k) (nI (M k % 4)) (b01 b) := fun X b hh => by
    refine MO_against_spec hw (MO_beside_c hW hH hp (opp_lt _) (fun j ej _ _ => ?_) (fun hno => absurd (hfl q hq64 hfq) (hno q hq)))
    rw [hq] at ej
    cases ej
    intro m em
    subst em
    cases b with
    | false =>
      rw [if_pos b01F]
      intro p1 ep
      rw [if_pos b01F, ep]
      exact hh
    | true =>
      rw [if_neg b01T]
      intro p1 ep
      rw [if_neg b01T, ep]
      exact hh
  by_cases e4 : M k < 4
  · rw [if_pos (show nI (M k) ≤ (3 : Int32) from nI_le (b := 3) (by omega) (by decide))]
    rw [if_pos e4, decide_eq_false (by omega)] at h
    unfold MO_undo_54
    rw [if_pos rfl]
    rcases hx with ⟨-, hx⟩ | ⟨hx, -⟩
    · rw [hx] at h; exact fin bx false h
    · omega
  · rw [if_neg (show ¬ nI (M k) ≤ (3 : Int32) from nI_ge (a := 3) (by omega) (by omega))]
    rw [if_neg e4, decide_eq_true (show 4 ≤ M k by omega)] at h
    unfold MO_undo_54
    rw [if_neg (by decide)]
    rcases hx with ⟨hx, -⟩ | ⟨-, r, hr, hx1, hx4, hx2, hx3⟩
    · omega
    · refine MO_beside_c hW hH hp hw (fun j ej _ _ => ?_) (fun hno => absurd (hfl r hr hx4) (hno r hx1))
      rw [hx1] at ej
      cases ej
      intro b eb
      have eb : b = bx' := eb.trans hx2.symm
      rw [eb]
      exact fin bx' true h
