/-! many moves, and rows of them -/
def goN (bd : Bool) (fl : Int64) (w : Nat) : Nat → Nat × Int64 × Nat × (Nat → Nat) × Int32 × Int32 → Bool × (Nat × Int64 × Nat × (Nat → Nat) × Int32 × Int32)
  | 0, A => (true, A)
  | n + 1, A => match goA bd fl w A with
    | none => (false, A)
    | some (_, A') => goN bd fl w n A'
def wayF (u : Int32) : Option Nat := if u = 68 then some 1 else if u = 76 then some 2 else if u = 82 then some 0 else if u = 85 then some 3 else if u = 100 then some 1 else if u = 108 then some 2 else if u = 114 then some 0 else if u = 117 then some 3 else none
theorem wayF_lt {u : Int32} {w : Nat} (h : wayF u = some w) : w < 4 := by
  unfold wayF at h
  repeat (first | (split at h; (cases h; decide)) | cases h)
def wyI (o : Option Nat) : Int32 := match o with
  | some w => nI w
  | none => -1
theorem PB_wayOfLetter_spec {u : Int32} {post : Int32 → Prop} (h : post (wyI (wayF u))) : PB_wayOfLetter u post := by
  unfold PB_wayOfLetter
  unfold wayF at h
  repeat (first | exact h | (split; (rename_i e; rw [if_pos e] at h; exact h)) | (rename_i e; rw [if_neg e] at h))
theorem MO_wayOf_spec {u : Int32} {post : Int32 → Prop} (h : post (wyI (wayF u))) : MO_wayOf u post := by
  unfold MO_wayOf
  unfold wayF at h
  repeat (first | exact h | (split; (rename_i e; rw [if_pos e] at h; exact h)) | (rename_i e; rw [if_neg e] at h))
theorem goA_lt {bd : Bool} {fl bx bx' : Int64} {w p q kp kp' : Nat} {M M' : Nat → Nat} {mv pu mv' pu' : Int32} {b : Bool} (hp : p < 64) (hw : w < 4) (hk : kp ≤ 500) (h : goA bd fl w (p, bx, kp, M, mv, pu) = some (b, q, bx', kp', M', mv', pu')) : q < 64 ∧ kp' ≤ 500 ∧ bd = true := by
  unfold goA at h
  cases bd with
  | false => rw [if_neg Bool.false_ne_true] at h; cases h
  | true =>
    rw [if_pos rfl] at h
    dsimp only at h
    cases e : goF fl bx p w with
    | none => rw [e] at h; cases h
    | some r =>
      obtain ⟨a, b2, c⟩ := r
      rw [e] at h
      cases h
      exact ⟨goF_lt hp hw e, kpA_le hk, rfl⟩
theorem PB_goOften_2_spec {bd ok : Bool} {fl bx' : Int64} {w T p' kp' : Nat} {M' : Nat → Nat} {mv' pu' : Int32} {post : Int32 → Int64 → Int64 → Int32 → Int32 → Int32 → Int32 → (Nat → Int32) → Prop} (hw : w < 4) (hT : T ≤ 1000)
    (hk : ∀ d en' ma', clR kp' M' en' ma' → (ok = true → d = T) → (ok = false → d < T) → post (nI d) bx' (psL bd p') (nI kp') mv' pu' (nI en') ma') :
    ∀ n d p bx kp M mv pu en ma, d ≤ T → T - d < n → p < 64 → clR kp M en ma → goN bd fl w (T - d) (p, bx, kp, M, mv, pu) = (ok, p', bx', kp', M', mv', pu') → PB_goOften_2 fl post n bx (psL bd p) (nI kp) mv pu (nI en) ma (nI w) (nI T) (nI d) := by
  intro n
  induction n with
  | zero => intro d _ _ _ _ _ _ _ _ _ h; exact absurd h (Nat.not_lt_zero _)
  | succ n ih =>
    intro d p bx kp M mv pu en ma hd hn hp hc hg
    unfold PB_goOften_2
    by_cases q : T ≤ d
    · rw [if_pos (nI_le q (by omega))]
      have ed : d = T := by omega
      subst ed
      rw [Nat.sub_self] at hg
      cases hg
      exact hk d en ma hc (fun _ => rfl) (fun h => Bool.noConfusion h)
    · rw [if_neg (nI_ge (by omega) (by omega)), if_neg (nI_pos (by omega))]
      rw [show T - d = (T - (d + 1)) + 1 by omega] at hg
      have hg : (match goA bd fl w (p, bx, kp, M, mv, pu) with
        | none => (false, (p, bx, kp, M, mv, pu))
        | some (_, A') => goN bd fl w (T - (d + 1)) A') = (ok, p', bx', kp', M', mv', pu') := hg
      refine PB_goOnce_spec hp hw hc (fun e => ?_) (fun b q1 bx1 kp1 M1 mv1 pu1 e en1 ma1 hc1 => ?_)
      · rw [if_pos rfl]
        rw [e] at hg
        cases hg
        exact hk d en ma hc (fun h => Bool.noConfusion h) (fun _ => by omega)
      · rw [if_neg (by cases b <;> decide), nI_1]
        rw [e] at hg
        have := goA_lt hp hw hc.2.1 e
        exact ih (d + 1) q1 bx1 kp1 M1 mv1 pu1 en1 ma1 (by omega) (by omega) this.1 hc1 hg
def rowF (bd : Bool) (fl : Int64) (tx : Nat → Int32) : Nat → Nat → Nat → Nat → Nat × Int64 × Nat × (Nat → Nat) × Int32 × Int32 → Int32 × (Nat × Int64 × Nat × (Nat → Nat) × Int32 × Int32)
  | 0, i, t, all, A => (if t = 0 then nI all else (-1 : Int32) - nI i, A)
  | n + 1, i, t, all, A => if t = 0 ∧ ¬ tx i < 50 ∧ ¬ 57 < tx i then rowF bd fl tx n (i + 1) ((tx i).toNatClampNeg - 48) all A else (match wayF (tx i) with
    | none => ((-1 : Int32) - nI i, A)
    | some w => (match goN bd fl w (max t 1) A with
      | (false, A') => ((-1 : Int32) - nI i, A')
      | (true, A') => rowF bd fl tx n (i + 1) 0 (all + max t 1) A'))
theorem digit {u : Int32} (h1 : ¬ u < 50) (h2 : ¬ 57 < u) : ∃ k, 50 ≤ k ∧ k ≤ 57 ∧ u = nI k := by
  have h0 : ¬ u < 0 := fun h => h1 (by
    rw [Int32.lt_iff_toInt_lt] at h ⊢
    have e0 : (0 : Int32).toInt = 0 := by decide
    have e5 : (50 : Int32).toInt = 50 := by decide
    omega)
  obtain ⟨k, hk, e⟩ := nI_of h0
  subst e
  refine ⟨k, ?_, ?_, rfl⟩
  · apply Classical.byContradiction; intro q; exact h1 (ltK (k := 50) (by omega) (by decide))
  · apply Classical.byContradiction; intro q; exact h2 (kLt (k := 57) (by omega) (by omega))
theorem goN_lt {bd : Bool} {fl : Int64} {w : Nat} (hw : w < 4) : ∀ n p bx kp M mv pu ok p' bx' kp' M' mv' pu', p < 64 → kp ≤ 500 → goN bd fl w n (p, bx, kp, M, mv, pu) = (ok, p', bx', kp', M', mv', pu') → p' < 64 ∧ kp' ≤ 500 := by
  intro n
  induction n with
  | zero => intro p bx kp M mv pu ok p' bx' kp' M' mv' pu' hp hk h; cases h; exact ⟨hp, hk⟩
  | succ n ih =>
    intro p bx kp M mv pu ok p' bx' kp' M' mv' pu' hp hk h
    have h : (match goA bd fl w (p, bx, kp, M, mv, pu) with
        | none => (false, (p, bx, kp, M, mv, pu))
        | some (_, A') => goN bd fl w n A') = (ok, p', bx', kp', M', mv', pu') := h
    cases e : goA bd fl w (p, bx, kp, M, mv, pu) with
    | none => rw [e] at h; cases h; exact ⟨hp, hk⟩
    | some r =>
      obtain ⟨b, q1, bx1, kp1, M1, mv1, pu1⟩ := r
      rw [e] at h
      have := goA_lt hp hw hk e
      exact ih q1 bx1 kp1 M1 mv1 pu1 ok p' bx' kp' M' mv' pu' this.1 this.2.1 h
theorem PB_row_12_spec {bd : Bool} {fl bx' : Int64} {tx : Nat → Int32} {L p' kp' : Nat} {M' : Nat → Nat} {mv' pu' r tl : Int32} {post : Int32 → Int32 → Int64 → Int64 → Int32 → Int32 → Int32 → Int32 → (Nat → Int32) → Prop} (hL : L ≤ 160)
    (hk : ∀ en' ma', clR kp' M' en' ma' → post r tl bx' (psL bd p') (nI kp') mv' pu' (nI en') ma') :
    ∀ n i t all p bx kp M mv pu en ma, i ≤ L → L - i < n → t ≤ 9 → p < 64 → clR kp M en ma → rowF bd fl tx (L - i) i t all (p, bx, kp, M, mv, pu) = (r, p', bx', kp', M', mv', pu') → PB_row_12 tx fl post n tl bx (psL bd p) (nI kp) mv pu (nI en) ma (nI L) (nI all) (nI t) (nI i) := by
  intro n
  induction n with
  | zero => intro i _ _ _ _ _ _ _ _ _ _ _ h; exact absurd h (Nat.not_lt_zero _)
  | succ n ih =>
    intro i t all p bx kp M mv pu en ma hi hn ht hp hc hr
    unfold PB_row_12
    by_cases q : L ≤ i
    · have ei : i = L := by omega
      subst ei
      rw [if_pos (nI_le q (by omega))]
      rw [Nat.sub_self] at hr
      by_cases et : t = 0
      · subst et
        rw [if_pos (show nI 0 = 0 from rfl)]
        obtain ⟨hr1, hr2⟩ := Prod.mk.inj hr; subst hr1; cases hr2
        exact hk en ma hc
      · rw [if_neg (nI_ne0 (by omega) (by omega))]
        have hr : ((if t = 0 then nI all else (-1 : Int32) - nI i), (p, bx, kp, M, mv, pu)) = (r, p', bx', kp', M', mv', pu') := hr
        rw [if_neg et] at hr
        obtain ⟨hr1, hr2⟩ := Prod.mk.inj hr; subst hr1; cases hr2
        exact hk en ma hc
    · rw [if_neg (nI_ge (by omega) (by omega))]
      refine ⟨vp_inN (by omega) (by decide), fun u eu => ?_⟩
      rw [nI_clamp (by omega)] at eu
      rw [show L - i = (L - (i + 1)) + 1 by omega] at hr
      have hr : (if t = 0 ∧ ¬ tx i < 50 ∧ ¬ 57 < tx i then rowF bd fl tx (L - (i + 1)) (i + 1) ((tx i).toNatClampNeg - 48) all (p, bx, kp, M, mv, pu) else (match wayF (tx i) with
        | none => ((-1 : Int32) - nI i, (p, bx, kp, M, mv, pu))
        | some w => (match goN bd fl w (max t 1) (p, bx, kp, M, mv, pu) with
          | (false, A') => ((-1 : Int32) - nI i, A')
          | (true, A') => rowF bd fl tx (L - (i + 1)) (i + 1) 0 (all + max t 1) A'))) = (r, p', bx', kp', M', mv', pu') := hr
      rw [← eu] at hr
      have go : ¬ (t = 0 ∧ ¬ u < 50 ∧ ¬ 57 < u) → PB_row_54 tx fl (fun pb_textLength' bo_boxes' bo_person' lo_kept' lo_moves' lo_pushed' lo_end' aMA' v1' v2' v3' v4' => PB_row_12 tx fl post n pb_textLength' bo_boxes' bo_person' lo_kept' lo_moves' lo_pushed' lo_end' aMA' v1' v2' v3' v4') post tl bx (psL bd p) (nI kp) mv pu (nI en) ma (nI L) (nI all) (nI t) (nI i) u := fun hne => by
        rw [if_neg hne] at hr
        intro v6 e6
        have e6 : v6 = nI (max t 1) := by
          rw [e6]
          by_cases et : t = 0
          · subst et; rfl
          · rw [if_neg (nltK (k := 1) (by omega) (by omega)), Nat.max_eq_left (by omega)]
        rw [e6]
        refine PB_wayOfLetter_spec ?_
        cases ew : wayF u with
        | none =>
          rw [ew] at hr
          obtain ⟨hr1, hr2⟩ := Prod.mk.inj hr; subst hr1; cases hr2
          refine ⟨1, ?_⟩
          unfold PB_goOften_2
          rw [if_neg (show ¬ nI (max t 1) ≤ 0 from nI_nle (by omega) (by omega)), if_pos (show wyI none < 0 by decide), if_neg (show ¬ nI (max t 1) ≤ 0 from nI_nle (by omega) (by omega))]
          exact hk en ma hc
        | some w =>
          have hw := wayF_lt ew
          rw [ew] at hr
          dsimp only at hr
          cases eg : goN bd fl w (max t 1) (p, bx, kp, M, mv, pu) with
          | mk ok A1 =>
            obtain ⟨p1, bx1, kp1, M1, mv1, pu1⟩ := A1
            have hlt := goN_lt hw _ _ _ _ _ _ _ _ _ _ _ _ _ _ hp hc.2.1 eg
            rw [eg] at hr
            refine ⟨max t 1 + 1, PB_goOften_2_spec (ok := ok) (T := max t 1) hw (by omega) (fun d en' ma' hc' h1 h2 => ?_) (max t 1 + 1) 0 p bx kp M mv pu en ma (Nat.zero_le _) (by omega) hp hc (by rw [Nat.sub_zero]; exact eg)⟩
            cases ok with
            | true =>
              have ed := h1 rfl
              subst ed
              rw [if_pos (nI_le (Nat.le_refl _) (by omega))]
              intro v2 e2
              rw [e2, nI_add, nI_1]
              exact ih (i + 1) 0 (all + max t 1) p1 bx1 kp1 M1 mv1 pu1 en' ma' (by omega) (by omega) (by omega) hlt.1 hc' hr
            | false =>
              have ed := h2 rfl
              rw [if_neg (nI_ge ed (by omega))]
              obtain ⟨hr1, hr2⟩ := Prod.mk.inj hr; subst hr1; cases hr2
              exact hk en' ma' hc'
      by_cases et : t = 0
      · rw [if_pos (by rw [et]; rfl)]
        by_cases q1 : u < 50
        · rw [if_pos q1]; exact go (fun h => h.2.1 q1)
        · rw [if_neg q1]
          by_cases q2 : 57 < u
          · rw [if_pos q2]; exact go (fun h => h.2.2 q2)
          · rw [if_neg q2]
            rw [if_pos ⟨et, q1, q2⟩] at hr
            obtain ⟨k, k1, k2, ek⟩ := digit q1 q2
            intro v3 e3
            rw [ek, show (48 : Int32) = nI 48 from rfl, pk_sub (by omega)] at e3
            rw [ek, nI_clamp (by omega)] at hr
            rw [e3, nI_1]
            exact ih (i + 1) (k - 48) all p bx kp M mv pu en ma (by omega) (by omega) (by omega) hp hc hr
      · rw [if_neg (nI_ne0 (by omega) (by omega))]
        exact go (fun h => et h.1)
theorem PB_row_spec {bd : Bool} {fl bx bx' : Int64} {tx : Nat → Int32} {L p p' kp kp' en : Nat} {M M' : Nat → Nat} {ma : Nat → Int32} {mv pu mv' pu' r : Int32} {post : Int32 → Int32 → Int64 → Int64 → Int32 → Int32 → Int32 → Int32 → (Nat → Int32) → Prop} (hL : L ≤ 160) (hp : p < 64) (hc : clR kp M en ma) (hr : rowF bd fl tx L 0 0 0 (p, bx, kp, M, mv, pu) = (r, p', bx', kp', M', mv', pu'))
    (hk : ∀ en' ma', clR kp' M' en' ma' → post r 0 bx' (psL bd p') (nI kp') mv' pu' (nI en') ma') : PB_row tx fl (nI L) bx (psL bd p) (nI kp) mv pu (nI en) ma post :=
  ⟨L + 1, PB_row_12_spec hL hk (L + 1) 0 0 0 p bx kp M mv pu en ma (Nat.zero_le _) (by omega) (by omega) hp hc hr⟩
/-! the reference's row -/
theorem MO_row_84_spec {bd ok : Bool} {W H : Nat} {fl bx' : Int64} {tx : Nat → Int32} {w t all i L p' kp' : Nat} {M' : Nat → Nat} {mv' pu' th sz : Int32} {k22 : Int32 → Int32 → Int32 → Int32 → Int32 → Int64 → Int32 → (Nat → Int32) → Int32 → Int32 → Int32 → Int32 → Prop} {post : Int32 → Int32 → Int32 → Int32 → Int32 → Int32 → Int64 → Int32 → (Nat → Int32) → Prop} (hW : W ≤ 8) (hH : H ≤ 8) (hfl : onB W H fl) (hw : w < 4) (ht : t ≤ 9)
    (h1 : ok = true → ∀ dn', rfR kp' M' dn' → k22 th sz (nI p') mv' pu' bx' (nI kp') dn' (nI L) 0 (nI (all + max t 1)) (nI (i + 1)))
    (h0 : ok = false → ∀ dn', rfR kp' M' dn' → post ((-1 : Int32) - nI i) th sz (nI p') mv' pu' bx' (nI kp') dn') :
    ∀ n d p bx kp M mv pu dn, d ≤ max t 1 → max t 1 - d < n → p < 64 → kp ≤ 500 → rfR kp M dn → goN bd fl w (max t 1 - d) (p, bx, kp, M, mv, pu) = (ok, p', bx', kp', M', mv', pu') → MO_row_84 (b01 bd) (nI W) (nI H) fl tx k22 post n th sz (nI p) mv pu bx (nI kp) dn (nI L) (nI t) (nI (all + d)) (nI i) (nI w) (nI d) := by
  intro n
  induction n with
  | zero => intro d _ _ _ _ _ _ _ _ h; exact absurd h (Nat.not_lt_zero _)
  | succ n ih =>
    intro d p bx kp M mv pu dn hd hn hp hkp hc hg
    unfold MO_row_84
    by_cases q : d < max t 1
    · have body : MO_row_95 (b01 bd) (nI W) (nI H) fl tx (fun mo_thrown' mo_size' mo_person' mo_moves' mo_pushes' mo_boxes' mo_kept' aDO' v1' v2' v3' v4' v6' v7' => MO_row_84 (b01 bd) (nI W) (nI H) fl tx k22 post n mo_thrown' mo_size' mo_person' mo_moves' mo_pushes' mo_boxes' mo_kept' aDO' v1' v2' v3' v4' v6' v7') post th sz (nI p) mv pu bx (nI kp) dn (nI L) (nI t) (nI (all + d)) (nI i) (nI w) (nI d) := by
        rw [show max t 1 - d = (max t 1 - (d + 1)) + 1 by omega] at hg
        have hg : (match goA bd fl w (p, bx, kp, M, mv, pu) with
          | none => (false, (p, bx, kp, M, mv, pu))
          | some (_, A') => goN bd fl w (max t 1 - (d + 1)) A') = (ok, p', bx', kp', M', mv', pu') := hg
        unfold MO_row_95
        cases bd with
        | false =>
          rw [if_pos b01F]
          cases hg
          exact h0 rfl dn hc
        | true =>
          rw [if_neg b01T]
          refine MO_go_spec hW hH hfl hp hw hkp hc (fun e => ?_) (fun b q1 bx1 kp1 M1 mv1 pu1 e dn1 hc1 => ?_)
          · rw [if_pos rfl]
            rw [e] at hg
            cases hg
            exact h0 rfl dn hc
          · rw [if_neg (by cases b <;> decide), nI_1, nI_1]
            rw [e] at hg
            have := goA_lt hp hw hkp e
            exact ih (d + 1) q1 bx1 kp1 M1 mv1 pu1 dn1 (by omega) (by omega) this.1 this.2.1 hc1 hg
      by_cases q2 : d < t
      · rw [if_pos (nI_lt q2 (by omega))]; exact body
      · rw [if_neg (nI_nlt (by omega) (by omega)), if_pos (by rw [show d = 0 by omega]; rfl)]; exact body
    · have ed : d = max t 1 := by omega
      subst ed
      rw [if_neg (nI_nlt (by omega) (by omega)), if_neg (nI_ne0 (by omega) (by omega)), nI_1]
      rw [Nat.sub_self] at hg
      cases hg
      exact h1 rfl dn hc
theorem MO_row_22_spec {bd : Bool} {W H : Nat} {fl bx' : Int64} {tx : Nat → Int32} {L p' kp' : Nat} {M' : Nat → Nat} {mv' pu' r th sz : Int32} {post : Int32 → Int32 → Int32 → Int32 → Int32 → Int32 → Int64 → Int32 → (Nat → Int32) → Prop} (hW : W ≤ 8) (hH : H ≤ 8) (hfl : onB W H fl) (hL : L ≤ 160)
    (hk : ∀ dn', rfR kp' M' dn' → post r th sz (nI p') mv' pu' bx' (nI kp') dn') :
    ∀ n i t all p bx kp M mv pu dn, i ≤ L → L - i < n → t ≤ 9 → p < 64 → kp ≤ 500 → rfR kp M dn → rowF bd fl tx (L - i) i t all (p, bx, kp, M, mv, pu) = (r, p', bx', kp', M', mv', pu') → MO_row_22 (b01 bd) (nI W) (nI H) fl tx post n th sz (nI p) mv pu bx (nI kp) dn (nI L) (nI t) (nI all) (nI i) := by
  intro n
  induction n with
  | zero => intro i _ _ _ _ _ _ _ _ _ _ h; exact absurd h (Nat.not_lt_zero _)
  | succ n ih =>
    intro i t all p bx kp M mv pu dn hi hn ht hp hkp hc hr
    unfold MO_row_22
    by_cases q : L ≤ i
    · have ei : i = L := by omega
      subst ei
      rw [if_pos (nI_le q (by omega))]
      rw [Nat.sub_self] at hr
      have hr : ((if t = 0 then nI all else (-1 : Int32) - nI i), (p, bx, kp, M, mv, pu)) = (r, p', bx', kp', M', mv', pu') := hr
      by_cases et : t = 0
      · rw [if_pos (by rw [et]; decide)]
        rw [if_pos et] at hr
        obtain ⟨hr1, hr2⟩ := Prod.mk.inj hr; subst hr1; cases hr2
        exact hk dn hc
      · rw [if_neg (nI_nle (by omega) (by omega))]
        rw [if_neg et] at hr
        obtain ⟨hr1, hr2⟩ := Prod.mk.inj hr; subst hr1; cases hr2
        exact hk dn hc
    · rw [if_neg (nI_ge (by omega) (by omega))]
      refine ⟨vp_inN (by omega) (by decide), fun u eu => ?_⟩
      rw [nI_clamp (by omega)] at eu
      rw [show L - i = (L - (i + 1)) + 1 by omega] at hr
      have hr : (if t = 0 ∧ ¬ tx i < 50 ∧ ¬ 57 < tx i then rowF bd fl tx (L - (i + 1)) (i + 1) ((tx i).toNatClampNeg - 48) all (p, bx, kp, M, mv, pu) else (match wayF (tx i) with
        | none => ((-1 : Int32) - nI i, (p, bx, kp, M, mv, pu))
        | some w => (match goN bd fl w (max t 1) (p, bx, kp, M, mv, pu) with
          | (false, A') => ((-1 : Int32) - nI i, A')
          | (true, A') => rowF bd fl tx (L - (i + 1)) (i + 1) 0 (all + max t 1) A'))) = (r, p', bx', kp', M', mv', pu') := hr
      rw [← eu] at hr
      have go : ¬ (t = 0 ∧ ¬ u < 50 ∧ ¬ 57 < u) → MO_row_64 (b01 bd) (nI W) (nI H) fl tx (fun mo_thrown' mo_size' mo_person' mo_moves' mo_pushes' mo_boxes' mo_kept' aDO' v1' v2' v3' v4' => MO_row_22 (b01 bd) (nI W) (nI H) fl tx post n mo_thrown' mo_size' mo_person' mo_moves' mo_pushes' mo_boxes' mo_kept' aDO' v1' v2' v3' v4') post th sz (nI p) mv pu bx (nI kp) dn (nI L) (nI t) (nI all) (nI i) u := fun hne => by
        rw [if_neg hne] at hr
        refine MO_wayOf_spec ?_
        cases ew : wayF u with
        | none =>
          rw [ew] at hr
          obtain ⟨hr1, hr2⟩ := Prod.mk.inj hr; subst hr1; cases hr2
          rw [if_neg (show ¬ 0 ≤ wyI none by decide)]
          exact hk dn hc
        | some w =>
          have hw := wayF_lt ew
          rw [ew] at hr
          dsimp only at hr
          rw [if_pos (show 0 ≤ wyI (some w) from nI_pos' (by omega))]
          cases eg : goN bd fl w (max t 1) (p, bx, kp, M, mv, pu) with
          | mk ok A1 =>
            obtain ⟨p1, bx1, kp1, M1, mv1, pu1⟩ := A1
            have hlt := goN_lt hw _ _ _ _ _ _ _ _ _ _ _ _ _ _ hp hkp eg
            rw [eg] at hr
            refine ⟨max t 1 + 1, MO_row_84_spec (ok := ok) (all := all) hW hH hfl hw ht (fun eo dn' hc' => ?_) (fun eo dn' hc' => ?_) (max t 1 + 1) 0 p bx kp M mv pu dn (Nat.zero_le _) (by omega) hp hkp hc (by rw [Nat.sub_zero]; exact eg)⟩
            · subst eo
              exact ih (i + 1) 0 (all + max t 1) p1 bx1 kp1 M1 mv1 pu1 dn' (by omega) (by omega) (by omega) hlt.1 hlt.2 hc' hr
            · subst eo
              obtain ⟨hr1, hr2⟩ := Prod.mk.inj hr; subst hr1; cases hr2
              exact hk dn' hc'
      by_cases et : t = 0
      · rw [if_pos (by rw [et]; rfl)]
        by_cases q1 : u < 50
        · rw [if_pos q1]; exact go (fun h => h.2.1 q1)
        · rw [if_neg q1]
          by_cases q2 : 57 < u
          · rw [if_pos q2]; exact go (fun h => h.2.2 q2)
          · rw [if_neg q2]
            rw [if_pos ⟨et, q1, q2⟩] at hr
            obtain ⟨k, k1, k2, ek⟩ := digit q1 q2
            intro v3 e3
            rw [ek, show (48 : Int32) = nI 48 from rfl, pk_sub (by omega)] at e3
            rw [ek, nI_clamp (by omega)] at hr
            rw [e3, nI_1]
            exact ih (i + 1) (k - 48) all p bx kp M mv pu dn (by omega) (by omega) (by omega) hp hkp hc hr
      · rw [if_neg (nI_ne0 (by omega) (by omega))]
        exact go (fun h => et h.1)
theorem MO_row_spec {bd : Bool} {W H : Nat} {fl bx bx' : Int64} {tx : Nat → Int32} {L p p' kp kp' : Nat} {M M' : Nat → Nat} {dn : Nat → Int32} {mv pu mv' pu' r th : Int32} {post : Int32 → Int32 → Int32 → Int32 → Int32 → Int32 → Int64 → Int32 → (Nat → Int32) → Prop} (hW : W ≤ 8) (hH : H ≤ 8) (hfl : onB W H fl) (hL : L ≤ 160) (hp : p < 64) (hkp : kp ≤ 500) (hc : rfR kp M dn) (hr : rowF bd fl tx L 0 0 0 (p, bx, kp, M, mv, pu) = (r, p', bx', kp', M', mv', pu'))
    (hk : ∀ dn', rfR kp' M' dn' → post r 0 0 (nI p') mv' pu' bx' (nI kp') dn') : MO_row (b01 bd) (nI W) (nI H) fl tx th (nI L) (nI p) mv pu bx (nI kp) dn post :=
  ⟨L + 1, MO_row_22_spec hW hH hfl hL hk (L + 1) 0 0 0 p bx kp M mv pu dn (Nat.zero_le _) (by omega) (by omega) hp hkp hc hr⟩
