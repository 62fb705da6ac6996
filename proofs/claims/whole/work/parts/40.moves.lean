/-! one move -/
def goF (fl bx : Int64) (p w : Nat) : Option (Nat × Int64 × Bool) := match nb w p with
  | none => none
  | some q => if tb fl q = true then (if tb bx q = true then (match nb w q with
      | none => none
      | some r => if tb fl r = true ∧ tb bx r = false then some (q, (bx &&& (bit q ^^^ (-1))) ||| bit r, true) else none) else some (q, bx, false)) else none
theorem sh_bit {w p : Nat} (hw : w < 4) (hp : p < 64) : ∀ j, j < 64 → (tb (sh (bit p) w) j = true ↔ nb w p = some j) := fun j hj => by
  rw [tb_sh_iff hw hj]
  constructor
  · rintro ⟨i, hi, h1, h2⟩
    rw [tb_bit hp] at h2
    rw [← of_decide_eq_true h2]; exact h1
  · intro h
    exact ⟨p, hp, h, by rw [tb_bit hp]; simp⟩
theorem sh_none {w p : Nat} (hw : w < 4) (hp : p < 64) (h : nb w p = none) : sh (bit p) w = 0 := tb_eq0 fun j hj => by
  cases e : tb (sh (bit p) w) j with
  | false => rfl
  | true => rw [(sh_bit hw hp j hj).mp e] at h; cases h
theorem sh_some {w p q : Nat} (hw : w < 4) (hp : p < 64) (h : nb w p = some q) : sh (bit p) w = bit q := tb_ext fun j hj => by
  have hq := nb_lt w hw p hp q h
  rw [tb_bit hq]
  by_cases e : j = q
  · subst e
    rw [(sh_bit hw hp j hj).mpr h]; simp
  · rw [decide_eq_false e]
    cases f : tb (sh (bit p) w) j with
    | false => rfl
    | true => rw [(sh_bit hw hp j hj).mp f] at h; cases h; exact absurd rfl e
theorem bit_and {x : Int64} {k : Nat} (hk : k < 64) : bit k &&& x = if tb x k = true then bit k else 0 := tb_ext fun i hi => by
  rw [tb_and, tb_bit hk]
  by_cases e : i = k
  · subst e
    cases f : tb x i with
    | true => rw [if_pos rfl, tb_bit hi]; simp
    | false => rw [if_neg Bool.false_ne_true, tb_zero]; simp
  · cases f : tb x k with
    | true => rw [if_pos rfl, tb_bit hk]; simp [e]
    | false => rw [if_neg Bool.false_ne_true, tb_zero]; simp [e]
theorem xor_move {x : Int64} {q r : Nat} (hq : q < 64) (hr : r < 64) (h1 : tb x q = true) (h2 : tb x r = false) : x ^^^ (bit q ||| bit r) = (x &&& (bit q ^^^ (-1))) ||| bit r := tb_ext fun i hi => by
  rw [tb_xor, tb_or, tb_bit hq, tb_bit hr, tb_or, tb_clr hq, tb_bit hr]
  by_cases e1 : i = q
  · subst e1
    rw [h1]
    have : ¬ i = r := fun e => by rw [e, h2] at h1; cases h1
    simp [this]
  · by_cases e2 : i = r
    · subst e2; rw [h2]; simp
    · simp [e1, e2]
theorem BO_go_spec {fl bx : Int64} {p w : Nat} {post : Int32 → Int64 → Int64 → Prop} (hp : p < 64) (hw : w < 4)
    (h0 : goF fl bx p w = none → post 0 bx (bit p)) (h1 : ∀ q bx', goF fl bx p w = some (q, bx', false) → post 1 bx' (bit q)) (h2 : ∀ q bx', goF fl bx p w = some (q, bx', true) → post 2 bx' (bit q)) : BO_go fl bx (bit p) (nI w) post := by
  refine PB_shifted_spec hw ?_
  intro z ez
  unfold goF at h0 h1 h2
  cases e : nb w p with
  | none =>
    rw [sh_none hw hp e] at ez
    have ez : z = 0 := by rw [ez]; exact tb_eq0 fun i _ => by rw [tb_and, tb_zero]; rfl
    rw [if_pos ez]
    rw [e] at h0
    exact h0 rfl
  | some q =>
    have hq := nb_lt w hw p hp q e
    rw [sh_some hw hp e, bit_and hq] at ez
    rw [e] at h0 h1 h2
    dsimp only at h0 h1 h2
    cases f1 : tb fl q with
    | false =>
      rw [f1, if_neg Bool.false_ne_true] at ez h0
      rw [if_pos ez]
      exact h0 rfl
    | true =>
      rw [f1, if_pos rfl] at ez h0 h1 h2
      rw [if_neg (by rw [ez]; exact bit_ne0 hq), ez, bit_and hq]
      cases f2 : tb bx q with
      | false =>
        rw [f2, if_neg Bool.false_ne_true] at h1
        rw [if_neg Bool.false_ne_true, if_pos rfl]
        exact h1 q bx rfl
      | true =>
        rw [f2, if_pos rfl] at h0 h2
        rw [if_pos rfl, if_neg (bit_ne0 hq)]
        refine PB_shifted_spec hw ?_
        intro y ey
        cases g : nb w q with
        | none =>
          rw [sh_none hw hq g] at ey
          have ey : y = 0 := by rw [ey]; exact tb_eq0 fun i _ => by rw [tb_and, tb_and, tb_zero]; rfl
          rw [if_pos ey]
          rw [g] at h0
          exact h0 rfl
        | some r =>
          have hr := nb_lt w hw q hq r g
          rw [g] at h0 h2
          dsimp only at h0 h2
          have ey2 : y = if tb fl r = true ∧ tb bx r = false then bit r else 0 := by
            rw [ey, sh_some hw hq g, bit_and hr]
            cases f3 : tb fl r with
            | false => rw [if_neg Bool.false_ne_true, if_neg (fun h => Bool.noConfusion h.1)]; exact tb_eq0 fun i _ => by rw [tb_and, tb_zero]; rfl
            | true =>
              rw [if_pos rfl, bit_and hr, tb_not hr]
              cases f4 : tb bx r with
              | false => rfl
              | true => rfl
          by_cases q4 : tb fl r = true ∧ tb bx r = false
          · rw [if_pos q4] at ey2 h2
            rw [if_neg (by rw [ey2]; exact bit_ne0 hr)]
            intro b eb
            rw [eb, ey2, xor_move hq hr f2 q4.2]
            exact h2 q _ rfl
          · rw [if_neg q4] at ey2 h0
            rw [if_pos ey2]
            exact h0 rfl
/-! the log -/
def kpA (kp : Nat) : Nat := if kp = 500 then 500 else kp + 1
def addM (kp : Nat) (M : Nat → Nat) (m : Nat) : Nat → Nat := fun i => if kp = 500 then (if i < 499 then M (i + 1) else m) else (if i = kp then m else M i)
def clR (kp : Nat) (M : Nat → Nat) (en : Nat) (ma : Nat → Int32) : Prop := en < 500 ∧ kp ≤ 500 ∧ ∀ i, i < kp → ma ((en + 500 - kp + i) % 500) = nI (M i)
def rfR (kp : Nat) (M : Nat → Nat) (dn : Nat → Int32) : Prop := ∀ i, i < kp → dn i = nI (M i)
theorem addM_s {M : Nat → Nat} {m i : Nat} (h : i < 499) : addM 500 M m i = M (i + 1) := by unfold addM; rw [if_pos rfl, if_pos h]
theorem addM_t {M : Nat → Nat} {m i : Nat} (h : ¬ i < 499) : addM 500 M m i = m := by unfold addM; rw [if_pos rfl, if_neg h]
theorem addM_n {kp : Nat} {M : Nat → Nat} {m : Nat} (h : ¬ kp = 500) : addM kp M m kp = m := by unfold addM; rw [if_neg h, if_pos rfl]
theorem addM_o {kp : Nat} {M : Nat → Nat} {m i : Nat} (h : ¬ kp = 500) (hi : ¬ i = kp) : addM kp M m i = M i := by unfold addM; rw [if_neg h, if_neg hi]
theorem kpA_f : kpA 500 = 500 := rfl
theorem kpA_n {kp : Nat} (h : ¬ kp = 500) : kpA kp = kp + 1 := by unfold kpA; rw [if_neg h]
theorem kpA_le {kp : Nat} (h : kp ≤ 500) : kpA kp ≤ 500 := by unfold kpA; split <;> omega
theorem clR_add {kp en : Nat} {M : Nat → Nat} {ma : Nat → Int32} (h : clR kp M en ma) (m : Nat) : clR (kpA kp) (addM kp M m) ((en + 1) % 500) (upd ma en (nI m)) := by
  obtain ⟨h1, h2, h3⟩ := h
  refine ⟨Nat.mod_lt _ (by decide), kpA_le h2, fun i hi => ?_⟩
  by_cases e : kp = 500
  · subst e
    rw [kpA_f] at hi ⊢
    by_cases e2 : i < 499
    · rw [addM_s e2, upd_other _ _ (by omega)]
      have := h3 (i + 1) (by omega)
      rw [show (en + 500 - 500 + (i + 1)) % 500 = ((en + 1) % 500 + 500 - 500 + i) % 500 by omega] at this
      exact this
    · rw [addM_t e2, show ((en + 1) % 500 + 500 - 500 + i) % 500 = en by omega, upd_same]
  · rw [kpA_n e] at hi ⊢
    by_cases e2 : i = kp
    · subst e2
      rw [addM_n e, show ((en + 1) % 500 + 500 - (i + 1) + i) % 500 = en by omega, upd_same]
    · rw [addM_o e e2, upd_other _ _ (by omega)]
      have := h3 i (by omega)
      rw [show (en + 500 - kp + i) % 500 = ((en + 1) % 500 + 500 - (kp + 1) + i) % 500 by omega] at this
      exact this
theorem LO_add_spec {kp en m w : Nat} {M : Nat → Nat} {ma : Nat → Int32} {mv pu : Int32} {b : Bool} {post : Int32 → Int32 → Int32 → Int32 → (Nat → Int32) → Prop} (h : clR kp M en ma) (hm : m = if b = true then w + 4 else w) (hw : w < 4)
    (hk : ∀ en' ma', clR (kpA kp) (addM kp M m) en' ma' → post (nI (kpA kp)) (mv + 1) (pu + b01 b) (nI en') ma') : LO_add (nI kp) mv pu (nI en) ma (nI w) (b01 b) post := by
  have h1 := h.1
  have h2 := h.2.1
  have key : LO_add_19 post (nI kp) mv pu (nI en) ma (b01 b) (nI en) (nI m) := by
    refine ⟨vp_inN h.1 (by decide), fun ma' ema e1 ee1 k1 ek1 m1 em1 => ?_⟩
    rw [nI_clamp (by omega)] at ema
    rw [nI_1, show (500 : Int32) = nI 500 from rfl, pk_rem (by omega) (by decide) (by decide)] at ee1
    have ek2 : k1 = nI (kpA kp) := by
      rw [ek1, nI_1]
      unfold kpA
      by_cases q : kp = 500
      · rw [if_pos q, if_pos (kLt (k := 500) (by omega) (by omega))]; rfl
      · rw [if_neg q, if_neg (kNlt (k := 500) (by omega) (by decide))]
    rw [ek2, em1, ee1, ema]
    have hc := clR_add h m
    cases b with
    | false =>
      rw [if_pos b01F]
      intro p ep
      rw [ep]
      exact hk _ _ hc
    | true =>
      rw [if_neg b01T]
      intro p ep
      rw [ep]
      exact hk _ _ hc
  unfold LO_add
  cases b with
  | false => rw [if_pos b01F]; rw [if_neg Bool.false_ne_true] at hm; rw [hm] at key; exact key
  | true => rw [if_neg b01T, show (4 : Int32) = nI 4 from rfl, nI_add]; rw [if_pos rfl] at hm; rw [hm] at key; exact key
/-- person, boxes, what is kept, the marks, moves, pushes -/
def mkA (w : Nat) (b : Bool) : Nat := if b = true then w + 4 else w
def goA (bd : Bool) (fl : Int64) (w : Nat) (A : Nat × Int64 × Nat × (Nat → Nat) × Int32 × Int32) : Option (Bool × Nat × Int64 × Nat × (Nat → Nat) × Int32 × Int32) :=
  if bd = true then (match goF fl A.2.1 A.1 w with
    | none => none
    | some (q, bx', b) => some (b, q, bx', kpA A.2.2.1, addM A.2.2.1 A.2.2.2.1 (mkA w b), A.2.2.2.2.1 + 1, A.2.2.2.2.2 + b01 b)) else none
def psL (bd : Bool) (p : Nat) : Int64 := if bd = true then bit p else 0
theorem goF_lt {fl bx bx' : Int64} {p w q : Nat} {b : Bool} (hp : p < 64) (hw : w < 4) (h : goF fl bx p w = some (q, bx', b)) : q < 64 := by
  unfold goF at h
  cases e : nb w p with
  | none => rw [e] at h; cases h
  | some r =>
    have hr := nb_lt w hw p hp r e
    rw [e] at h
    dsimp only at h
    by_cases q1 : tb fl r = true
    · rw [if_pos q1] at h
      by_cases q2 : tb bx r = true
      · rw [if_pos q2] at h
        cases e2 : nb w r with
        | none => rw [e2] at h; cases h
        | some s =>
          rw [e2] at h
          dsimp only at h
          by_cases q3 : tb fl s = true ∧ tb bx s = false
          · rw [if_pos q3] at h; cases h; exact hr
          · rw [if_neg q3] at h; cases h
      · rw [if_neg q2] at h; cases h; exact hr
    · rw [if_neg q1] at h; cases h
theorem PB_goOnce_spec {bd : Bool} {fl bx : Int64} {p w kp en : Nat} {M : Nat → Nat} {ma : Nat → Int32} {mv pu : Int32} {post : Int32 → Int64 → Int64 → Int32 → Int32 → Int32 → Int32 → (Nat → Int32) → Prop} (hp : p < 64) (hw : w < 4) (h : clR kp M en ma)
    (h0 : goA bd fl w (p, bx, kp, M, mv, pu) = none → post 0 bx (psL bd p) (nI kp) mv pu (nI en) ma)
    (h1 : ∀ b q bx' kp' M' mv' pu', goA bd fl w (p, bx, kp, M, mv, pu) = some (b, q, bx', kp', M', mv', pu') → ∀ en' ma', clR kp' M' en' ma' → post (if b = true then 2 else 1) bx' (psL bd q) (nI kp') mv' pu' (nI en') ma') : PB_goOnce fl bx (psL bd p) (nI kp) mv pu (nI en) ma (nI w) post := by
  unfold PB_goOnce BO_isThere
  cases bd with
  | false =>
    rw [if_pos (show psL false p = 0 from rfl)]; dsimp only; rw [if_pos rfl]
    unfold PB_goOnce_22
    rw [if_pos rfl]
    exact h0 rfl
  | true =>
    rw [if_neg (show ¬ psL true p = 0 from bit_ne0 hp)]; dsimp only; rw [if_neg (by decide)]
    refine BO_go_spec hp hw (fun e => ?_) (fun q bx' e => ?_) (fun q bx' e => ?_)
    · unfold PB_goOnce_22
      rw [if_pos rfl]
      exact h0 (by unfold goA; rw [if_pos rfl]; dsimp only; rw [e])
    · unfold PB_goOnce_22
      rw [if_neg (by decide), if_neg (by decide)]
      refine LO_add_spec (b := false) (m := w) h rfl hw (fun en' ma' hc => ?_)
      exact h1 false q bx' _ _ _ _ (by unfold goA; rw [if_pos rfl]; dsimp only; rw [e]; rfl) en' ma' hc
    · unfold PB_goOnce_22
      rw [if_neg (by decide), if_pos rfl]
      refine LO_add_spec (b := true) (m := w + 4) h rfl hw (fun en' ma' hc => ?_)
      exact h1 true q bx' _ _ _ _ (by unfold goA; rw [if_pos rfl]; dsimp only; rw [e]; rfl) en' ma' hc
/-! the reference's move -/
theorem MO_go_173_spec {W H fl} {post : Int32 → Int32 → Int32 → Int32 → Int64 → Int32 → (Nat → Int32) → Prop} {q mv pu : Int32} {bx : Int64} {k w : Nat} {dn : Nat → Int32} {b : Bool} (hk : k < 500) (hw : w < 4)
    (h : post (if b = true then 2 else 1) q mv pu bx (nI (k + 1)) (upd dn k (nI (mkA w b)))) : MO_go_173 W H fl post q mv pu bx (nI k) dn (nI w) (if b = true then 2 else 1) := by
  intro x ex
  have ex2 : x = nI (mkA w b) := by
    rw [ex]
    unfold mkA
    cases b with
    | false => rw [if_neg Bool.false_ne_true, if_neg Bool.false_ne_true, show (4 : Int32) * (1 - 1) = nI 0 by decide, nI_add]; rfl
    | true => rw [if_pos rfl, if_pos rfl, show (4 : Int32) * (2 - 1) = nI 4 by decide, nI_add]
  refine ⟨vp_inN hk (by decide), fun d ed k2 ek => ?_⟩
  rw [nI_clamp (by omega), ex2] at ed
  rw [ed, ek, nI_1]
  exact h
theorem MO_go_133_spec {W H fl} {k173 : Int32 → Int32 → Int32 → Int64 → Int32 → (Nat → Int32) → Int32 → Int32 → Prop} {post : Int32 → Int32 → Int32 → Int32 → Int64 → Int32 → (Nat → Int32) → Prop} {q mv pu v1 v3 : Int32} {bx : Int64} {dn : Nat → Int32}
    (hk : ∀ d, (∀ i, i < 499 → d i = dn (i + 1)) → k173 q mv pu bx (nI 499) d v1 v3) :
    ∀ n i d, 1 ≤ i → i ≤ 500 → 500 - i < n → (∀ j, j < i - 1 → d j = dn (j + 1)) → (∀ j, i - 1 ≤ j → d j = dn j) → MO_go_133 W H fl k173 post n q mv pu bx (nI 500) d v1 v3 (nI i) := by
  intro n
  induction n with
  | zero => intro i d _ _ h; exact absurd h (Nat.not_lt_zero _)
  | succ n ih =>
    intro i d h1 hi hn a1 a2
    unfold MO_go_133
    by_cases e : 500 ≤ i
    · rw [if_pos (kL (k := 500) e (by omega))]
      intro k ek
      rw [show (1 : Int32) = nI 1 from rfl, pk_sub (by decide)] at ek
      rw [ek]
      exact hk d (fun j hj => a1 j (by omega))
    · rw [if_neg (kG (k := 500) (by omega) (by decide)), show (1 : Int32) = nI 1 from rfl, pk_sub h1, nI_add]
      refine ⟨vp_inN (by omega) (by decide), fun x ex => ⟨vp_inN (by omega) (by decide), fun d2 ed => ?_⟩⟩
      rw [nI_clamp (by omega), a2 i (by omega)] at ex
      rw [nI_clamp (by omega), ex] at ed
      refine ih (i + 1) d2 (by omega) (by omega) (by omega) (fun j hj => ?_) (fun j hj => ?_)
      · rw [ed]
        by_cases ej : j = i - 1
        · rw [ej, upd_same, show i - 1 + 1 = i by omega]
        · rw [upd_other _ _ ej]; exact a1 j (by omega)
      · rw [ed, upd_other _ _ (by omega)]; exact a2 j (by omega)
theorem MO_go_93_spec {W H fl} {post : Int32 → Int32 → Int32 → Int32 → Int64 → Int32 → (Nat → Int32) → Prop} {ps q mv pu : Int32} {bx : Int64} {kp w : Nat} {M : Nat → Nat} {dn : Nat → Int32} {b : Bool} (hkp : kp ≤ 500) (hw : w < 4) (h : rfR kp M dn)
    (hk : ∀ d, rfR (kpA kp) (addM kp M (mkA w b)) d → post (if b = true then 2 else 1) q (mv + 1) (pu + b01 b) bx (nI (kpA kp)) d) : MO_go_93 W H fl post ps mv pu bx (nI kp) dn (nI w) q (if b = true then 2 else 1) := by
  intro m em p ep
  rw [em]
  have ep2 : p = pu + b01 b := by
    rw [ep]
    cases b with
    | false => rfl
    | true => rfl
  rw [ep2]
  by_cases e : kp = 500
  · subst e
    rw [if_pos (show nI 500 = 500 from rfl)]
    refine ⟨500, MO_go_133_spec (dn := dn) (fun d hd => MO_go_173_spec (k := 499) (by decide) hw (hk _ (fun i hi => ?_))) 500 1 dn (Nat.le_refl _) (by decide) (by decide) (fun j hj => absurd hj (Nat.not_lt_zero _)) (fun _ _ => rfl)⟩
    have hi : i < 500 := hi
    by_cases e2 : i = 499
    · subst e2; rw [upd_same, addM_t (by decide)]
    · rw [upd_other _ _ e2, addM_s (by omega), hd i (by omega)]
      exact h (i + 1) (by omega)
  · rw [if_neg (neK (k := 500) e (by omega) (by decide))]
    have ek : kpA kp = kp + 1 := by unfold kpA; rw [if_neg e]
    rw [ek] at hk
    refine MO_go_173_spec (by omega) hw (hk _ (fun i hi => ?_))
    by_cases e2 : i = kp
    · subst e2; rw [upd_same, addM_n e]
    · rw [upd_other _ _ e2, addM_o e e2]; exact h i (by omega)
theorem MO_go_spec {W H p w kp : Nat} {fl bx : Int64} {M : Nat → Nat} {dn : Nat → Int32} {mv pu : Int32} {post : Int32 → Int32 → Int32 → Int32 → Int64 → Int32 → (Nat → Int32) → Prop} (hW : W ≤ 8) (hH : H ≤ 8) (hfl : onB W H fl) (hp : p < 64) (hw : w < 4) (hkp : kp ≤ 500) (h : rfR kp M dn)
    (h0 : goA true fl w (p, bx, kp, M, mv, pu) = none → post 0 (nI p) mv pu bx (nI kp) dn)
    (h1 : ∀ b q bx' kp' M' mv' pu', goA true fl w (p, bx, kp, M, mv, pu) = some (b, q, bx', kp', M', mv', pu') → ∀ dn', rfR kp' M' dn' → post (if b = true then 2 else 1) (nI q) mv' pu' bx' (nI kp') dn') : MO_go (nI W) (nI H) fl (nI p) mv pu bx (nI kp) dn (nI w) post := by
  have h0' : goF fl bx p w = none → post 0 (nI p) mv pu bx (nI kp) dn := fun e => h0 (by unfold goA; rw [if_pos rfl]; dsimp only; rw [e])
  have h1' : ∀ q bx' b, goF fl bx p w = some (q, bx', b) → ∀ d, rfR (kpA kp) (addM kp M (mkA w b)) d → post (if b = true then 2 else 1) (nI q) (mv + 1) (pu + b01 b) bx' (nI (kpA kp)) d := fun q bx' b e d hd => h1 b q bx' _ _ _ _ (by unfold goA; rw [if_pos rfl]; dsimp only; rw [e]) d hd
  clear h0 h1
  unfold goF at h0' h1'
  refine MO_beside_c hW hH hp hw (fun q e hq hb => ?_) (fun hno => ?_)
  · rw [e] at h0' h1'
    dsimp only at h0' h1'
    refine MO_has_spec hq ?_
    cases f1 : tb fl q with
    | false =>
      rw [f1, if_neg Bool.false_ne_true] at h0'
      rw [if_pos b01F]; exact h0' rfl
    | true =>
      rw [f1, if_pos rfl] at h0' h1'
      rw [if_neg b01T]
      refine MO_has_spec hq ?_
      cases f2 : tb bx q with
      | false =>
        rw [f2, if_neg Bool.false_ne_true] at h1'
        rw [if_pos b01F]
        exact MO_go_93_spec (b := false) hkp hw h (fun d hd => h1' q bx false rfl d hd)
      | true =>
        rw [f2, if_pos rfl] at h0' h1'
        rw [if_neg b01T]
        refine MO_beside_c hW hH hq hw (fun r g hr hb2 => ?_) (fun hno => ?_)
        · rw [g] at h0' h1'
          dsimp only at h0' h1'
          refine MO_has_spec hr ?_
          cases f3 : tb fl r with
          | false =>
            rw [if_neg (by rw [f3]; exact fun h => Bool.noConfusion h.1)] at h0'
            rw [if_pos b01F]; exact h0' rfl
          | true =>
            rw [if_neg b01T]
            refine MO_has_spec hr ?_
            cases f4 : tb bx r with
            | true =>
              rw [if_neg (by rw [f4]; exact fun h => Bool.noConfusion h.2)] at h0'
              rw [if_neg b01T]; exact h0' rfl
            | false =>
              rw [if_pos ⟨f3, f4⟩] at h1'
              rw [if_pos b01F]
              intro z ez
              rw [ez]
              exact MO_go_93_spec (b := true) hkp hw h (fun d hd => h1' q _ true rfl d hd)
        · refine MO_has_neg ?_
          rw [if_pos rfl]
          cases g : nb w q with
          | none => rw [g] at h0'; exact h0' rfl
          | some r =>
            rw [g] at h0'
            dsimp only at h0'
            rw [if_neg] at h0'
            · exact h0' rfl
            · exact fun hh => hno r g (hfl r (nb_lt w hw q hq r g) hh.1)
  · refine MO_has_neg ?_
    rw [if_pos rfl]
    cases e : nb w p with
    | none => rw [e] at h0'; exact h0' rfl
    | some q =>
      rw [e] at h0'
      dsimp only at h0'
      rw [if_neg] at h0'
      · exact h0' rfl
      · exact fun hh => hno q e (hfl q (nb_lt w hw p hp q e) hh)
