/-! closures: the least set that holds S and is closed under E -/
def clo (E : Nat → Nat → Prop) (X : Int64) : Prop := ∀ i j, i < 64 → j < 64 → tb X i = true → E i j → tb X j = true
def lbd (E : Nat → Nat → Prop) (S X : Int64) : Prop := ∀ Y, sub S Y → clo E Y → sub X Y
def isCl (E : Nat → Nat → Prop) (S X : Int64) : Prop := sub S X ∧ clo E X ∧ lbd E S X
theorem isCl.uniq {E : Nat → Nat → Prop} {S X Y : Int64} (h : isCl E S X) (g : isCl E S Y) : X = Y := sub.eq (h.2.2 Y g.1 g.2.1) (g.2.2 X h.1 h.2.1)
theorem lbd.rf (E : Nat → Nat → Prop) (S : Int64) : lbd E S S := fun _ h _ => h
theorem lbd.zero {E : Nat → Nat → Prop} {X : Int64} (h : lbd E 0 X) : X = 0 := sub.eq (h 0 (sub.rf 0) (fun i j _ _ q _ => by rw [tb_zero] at q; cases q)) (fun i _ q => by rw [tb_zero] at q; cases q)
theorem lbd.grow {E : Nat → Nat → Prop} {S X Z : Int64} (h : lbd E S X) (hz : ∀ j, j < 64 → tb Z j = true → tb X j = true ∨ ∃ i, i < 64 ∧ tb X i = true ∧ E i j) : lbd E S Z := fun Y h1 h2 j hj q => by
  rcases hz j hj q with g | ⟨i, hi, g, e⟩
  · exact h Y h1 h2 j hj g
  · exact h2 i j hi hj (h Y h1 h2 i hi g) e
/-- the person's steps -/
def Er (free : Int64) (i j : Nat) : Prop := (∃ w, w < 4 ∧ nb w i = some j) ∧ tb free j = true
theorem BO_reachOf_32_spec {fl free S come : Int64} {r : Nat} {k18 : Int64 → Int64 → Int32 → Prop} {post : Int64 → Prop} (hS : sub S come) (hp : isCl (Er free) S come → post come)
    (hk : ∀ wider, sub come wider → ¬ wider = come → lbd (Er free) S wider → k18 free wider (nI (r + 1))) :
    ∀ n way wider, way ≤ 4 → 4 - way < n → sub come wider → lbd (Er free) S wider → (∀ w, w < way → ∀ i j, i < 64 → tb come i = true → nb w i = some j → tb free j = true → tb wider j = true) → BO_reachOf_32 fl k18 post n free come (nI r) wider (nI way) := by
  intro n
  induction n with
  | zero => intro way wider _ h; exact absurd h (Nat.not_lt_zero _)
  | succ n ih =>
    intro way wider hw hn hsub hlb hadv
    unfold BO_reachOf_32
    by_cases q : 4 ≤ way
    · rw [if_pos (kL q (by omega))]
      by_cases e : wider = come
      · rw [if_pos e]
        refine hp ⟨hS, fun i j hi hj h1 h2 => ?_, by rw [← e]; exact hlb⟩
        obtain ⟨⟨w, hw4, hnb⟩, hf⟩ := h2
        have := hadv w (by omega) i j hi h1 hnb hf
        rwa [e] at this
      · rw [if_neg e, nI_1]
        exact hk wider hsub e hlb
    · rw [if_neg (kG (k := 4) (by omega) (by decide))]
      refine PB_shifted_spec (by omega) ?_
      intro z ez
      have hz : ∀ j, j < 64 → tb z j = (tb wider j || (tb (sh wider way) j && tb free j)) := fun j _ => by rw [ez, tb_or, tb_and]
      rw [nI_1]
      refine ih (way + 1) z (by omega) (by omega) (fun i hi h => by rw [hz i hi, hsub i hi h]; rfl) (hlb.grow fun j hj h => ?_) (fun w hw2 i j hi h1 h2 h3 => ?_)
      · rw [hz j hj] at h
        cases f : tb wider j with
        | true => exact Or.inl rfl
        | false =>
          rw [f, Bool.false_or, Bool.and_eq_true] at h
          obtain ⟨i, hi, e1, e2⟩ := (tb_sh_iff (by omega) hj).mp h.1
          exact Or.inr ⟨i, hi, e2, ⟨way, by omega, e1⟩, h.2⟩
      · have hj := nb_lt w (by omega) i hi j h2
        rw [hz j hj]
        by_cases e : w = way
        · subst e
          rw [h3, (tb_sh_iff (by omega) hj).mpr ⟨i, hi, h2, hsub i hi h1⟩]
          simp
        · rw [hadv w (by omega) i j hi h1 h2 h3]; rfl
theorem BO_reachOf_18_spec {fl free S : Int64} {post : Int64 → Prop} (hp : ∀ X, isCl (Er free) S X → post X) :
    ∀ n r come, 64 - r < n → (come = 0 ∧ r = 0 ∨ r < cnt come) → sub S come → lbd (Er free) S come → BO_reachOf_18 fl post n free come (nI r) := by
  intro n
  induction n with
  | zero => intro r come h; exact absurd h (Nat.not_lt_zero _)
  | succ n ih =>
    intro r come hn hr hS hlb
    have hc := cnt_le come
    unfold BO_reachOf_18
    rw [if_neg (kG (k := 64) (by omega) (by decide))]
    refine ⟨5, BO_reachOf_32_spec hS (hp come) (fun wider h1 h2 h3 => ?_) 5 0 come (by decide) (by decide) (sub.rf come) hlb (fun w h => absurd h (Nat.not_lt_zero _))⟩
    have hlt := sub.lt h1 h2
    refine ih (r + 1) wider (by omega) (Or.inr ?_) (hS.tr h1) h3
    rcases hr with ⟨e, e2⟩ | hr
    · exfalso
      have hs0 : S = 0 := sub.eq (by rw [← e]; exact hS) (fun i _ q => by rw [tb_zero] at q; cases q)
      rw [hs0] at h3
      exact h2 (by rw [h3.zero, e])
    · omega
/-- the program's reach -/
theorem BO_reachOf_spec {fl S bx : Int64} {post : Int64 → Prop} (hp : ∀ X, isCl (Er (fl &&& (bx ^^^ (-1)))) S X → post X) : BO_reachOf fl S bx post := by
  intro v e
  rw [e]
  refine ⟨65, BO_reachOf_18_spec hp 65 0 S (by decide) ?_ (sub.rf S) (lbd.rf _ S)⟩
  by_cases h : S = 0
  · exact Or.inl ⟨h, rfl⟩
  · exact Or.inr (cnt_pos h)
/-! the reference's reach -/
theorem onB.or {W H : Nat} {x y : Int64} (hx : onB W H x) (hy : onB W H y) : onB W H (x ||| y) := fun i hi h => by
  rw [tb_or] at h
  cases e : tb x i with
  | true => exact hx i hi e
  | false => rw [e, Bool.false_or] at h; exact hy i hi h
theorem onB.bit {W H k : Nat} (hk : k < 64) (h : k % 8 < W ∧ k / 8 < H) : onB W H (bit k) := fun i hi e => by
  rw [tb_bit hk] at e
  have := of_decide_eq_true e
  rw [this]; exact h
theorem onB.sub {W H : Nat} {x y : Int64} (hy : onB W H y) (h : sub x y) : onB W H x := fun i hi e => hy i hi (h i hi e)
theorem tb_orbit {k : Nat} (hk : k < 64) (x : Int64) (i : Nat) : tb (x ||| bit k) i = (tb x i || decide (i = k)) := by rw [tb_or, tb_bit hk]
theorem MO_reachOf_67_spec {W H c : Nat} {fl S bx B : Int64} {k23 : Int64 → Int64 → Int64 → Int32 → Prop} {post : Int64 → Prop} (hW : W ≤ 8) (hH : H ≤ 8) (hc : c < 64) (hfr : tb (fl &&& (bx ^^^ (-1))) c = true) (hfl : onB W H fl)
    (hk : ∀ R, sub B R → lbd (Er (fl &&& (bx ^^^ (-1)))) S R → onB W H R → (∀ j, j < c + 1 → ∀ i, i < 64 → tb B i = true → Er (fl &&& (bx ^^^ (-1))) i j → tb R j = true) → k23 bx R B (nI (c + 1))) :
    ∀ n way R, way ≤ 4 → 4 - way < n → sub B R → lbd (Er (fl &&& (bx ^^^ (-1)))) S R → onB W H R → (∀ j, j < c → ∀ i, i < 64 → tb B i = true → Er (fl &&& (bx ^^^ (-1))) i j → tb R j = true) → (∀ w, w < way → ∀ i, nb w c = some i → tb B i = true → tb R c = true) → MO_reachOf_67 (nI W) (nI H) fl k23 post n bx R B (nI c) (nI way) := by
  intro n
  induction n with
  | zero => intro way R _ h; exact absurd h (Nat.not_lt_zero _)
  | succ n ih =>
    intro way R hw hn hsub hlb hon hdone hadv
    unfold MO_reachOf_67
    by_cases q : 4 ≤ way
    · rw [if_pos (kL q (by omega)), nI_1]
      refine hk R hsub hlb hon (fun j hj i hi h1 h2 => ?_)
      by_cases e : j = c
      · subst e
        obtain ⟨⟨w, hw4, hnb⟩, -⟩ := h2
        exact hadv (opp w) (by have := opp_lt w; omega) i (nb_sym hw4 hi hnb) h1
      · exact hdone j (by omega) i hi h1 h2
    · rw [if_neg (kG (k := 4) (by omega) (by decide))]
      refine MO_beside_spec hW hH hc (by omega) ?_
      refine has_bes hc (by omega) hon ?_
      cases e : (nb way c).any (fun j => tb R j) with
      | false =>
        rw [if_pos b01F, nI_1]
        refine ih (way + 1) R (by omega) (by omega) hsub hlb hon hdone (fun w hw2 i h1 h2 => ?_)
        by_cases e2 : w = way
        · subst e2
          rw [h1] at e
          have e : tb R i = false := e
          rw [hsub i (tb_lt h2) h2] at e
          cases e
        · exact hadv w (by omega) i h1 h2
      | true =>
        rw [if_neg b01T]
        intro z ez
        have ez : z = R ||| bit c := ez
        subst ez
        rw [nI_1]
        have hb := hfr
        rw [tb_and, Bool.and_eq_true] at hb
        refine ih (way + 1) (R ||| bit c) (by omega) (by omega) (hsub.tr sub.or) (hlb.grow fun j hj h => ?_) (hon.or (onB.bit hc (hfl c hc hb.1))) (fun j hj i hi h1 h2 => ?_) (fun w _ i _ _ => ?_)
        · rw [tb_orbit hc] at h
          cases f : tb R j with
          | true => exact Or.inl rfl
          | false =>
            rw [f, Bool.false_or] at h
            have hjc : j = c := of_decide_eq_true h
            subst hjc
            cases g : nb way j with
            | none => rw [g] at e; cases e
            | some i =>
              rw [g] at e
              have hi := nb_lt way (by omega) j hj i g
              exact Or.inr ⟨i, hi, e, ⟨opp way, opp_lt way, nb_sym (by omega) hj g⟩, hfr⟩
        · rw [tb_orbit hc, hdone j hj i hi h1 h2]; rfl
        · rw [tb_orbit hc]; simp
theorem MO_reachOf_23_spec {W H : Nat} {fl S bx B : Int64} {k8 : Int64 → Int64 → Int64 → Prop} {post : Int64 → Prop} (hW : W ≤ 8) (hH : H ≤ 8) (hfl : onB W H fl)
    (hk : ∀ R, sub B R → lbd (Er (fl &&& (bx ^^^ (-1)))) S R → onB W H R → (∀ i j, i < 64 → j < 64 → tb B i = true → Er (fl &&& (bx ^^^ (-1))) i j → tb R j = true) → k8 bx R B) :
    ∀ n c R, c ≤ 64 → 64 - c < n → sub B R → lbd (Er (fl &&& (bx ^^^ (-1)))) S R → onB W H R → (∀ j, j < c → ∀ i, i < 64 → tb B i = true → Er (fl &&& (bx ^^^ (-1))) i j → tb R j = true) → MO_reachOf_23 (nI W) (nI H) fl k8 post n bx R B (nI c) := by
  intro n
  induction n with
  | zero => intro c R _ h; exact absurd h (Nat.not_lt_zero _)
  | succ n ih =>
    intro c R hc hn hsub hlb hon hdone
    unfold MO_reachOf_23
    by_cases q : 64 ≤ c
    · rw [if_pos (kL q (by omega))]
      exact hk R hsub hlb hon (fun i j hi hj h1 h2 => hdone j (by omega) i hi h1 h2)
    · have hc4 : c < 64 := by omega
      have skip : (∀ i, i < 64 → tb B i = true → Er (fl &&& (bx ^^^ (-1))) i c → tb R c = true) → MO_reachOf_23 (nI W) (nI H) fl k8 post n bx R B (nI c + 1) := fun hx => by
        rw [nI_1]
        refine ih (c + 1) R (by omega) (by omega) hsub hlb hon (fun j hj i hi h1 h2 => ?_)
        by_cases e : j = c
        · subst e; exact hx i hi h1 h2
        · exact hdone j (by omega) i hi h1 h2
      rw [if_neg (kG (k := 64) (by omega) (by decide))]
      refine MO_has_spec hc4 ?_
      cases e1 : tb fl c with
      | false =>
        rw [if_pos b01F]
        exact skip (fun i _ _ h => by have := h.2; rw [tb_diff, e1] at this; cases this)
      | true =>
        rw [if_neg b01T]
        refine MO_has_spec hc4 ?_
        cases e2 : tb bx c with
        | true =>
          rw [if_neg b01T]
          exact skip (fun i _ _ h => by have := h.2; rw [tb_diff, e2] at this; simp at this)
        | false =>
          rw [if_pos b01F]
          refine MO_has_spec hc4 ?_
          cases e3 : tb R c with
          | true => rw [if_neg b01T]; exact skip (fun _ _ _ _ => e3)
          | false =>
            rw [if_pos b01F]
            have hfr : tb (fl &&& (bx ^^^ (-1))) c = true := by rw [tb_diff, e1, e2]; rfl
            exact ⟨5, MO_reachOf_67_spec hW hH hc4 hfr hfl (fun R' a1 a2 a3 a4 => ih (c + 1) R' (by omega) (by omega) a1 a2 a3 a4) 5 0 R (by decide) (by decide) hsub hlb hon hdone (fun w h => absurd h (Nat.not_lt_zero _))⟩
theorem MO_reachOf_8_spec {W H : Nat} {fl S bx : Int64} {post : Int64 → Prop} (hW : W ≤ 8) (hH : H ≤ 8) (hfl : onB W H fl) (hp : ∀ X, isCl (Er (fl &&& (bx ^^^ (-1)))) S X → post X) :
    ∀ n R B, 64 - cnt B < n → sub S R → sub B R → lbd (Er (fl &&& (bx ^^^ (-1)))) S R → onB W H R → (∀ i j, i < 64 → j < 64 → tb B i = true → Er (fl &&& (bx ^^^ (-1))) i j → tb R j = true) → MO_reachOf_8 (nI W) (nI H) fl post n bx R B := by
  intro n
  induction n with
  | zero => intro R B h; exact absurd h (Nat.not_lt_zero _)
  | succ n ih =>
    intro R B hn hS hsub hlb hon hadv
    unfold MO_reachOf_8
    by_cases e : R = B
    · rw [if_pos e]
      subst e
      exact hp R ⟨hS, hadv, hlb⟩
    · rw [if_neg e]
      have h1 := sub.lt hsub e
      have h2 := cnt_le R
      exact ⟨65, MO_reachOf_23_spec hW hH hfl (fun R' a1 a2 a3 a4 => ih R' R (by omega) (hS.tr a1) a1 a2 a3 a4) 65 0 R (by decide) (by decide) (sub.rf R) hlb hon (fun j h => absurd h (Nat.not_lt_zero _))⟩
theorem MO_reachOf_spec {W H p : Nat} {fl bx : Int64} {post : Int64 → Prop} (hW : W ≤ 8) (hH : H ≤ 8) (hfl : onB W H fl) (hp64 : p < 64) (hpB : p % 8 < W ∧ p / 8 < H) (hp : ∀ X, isCl (Er (fl &&& (bx ^^^ (-1)))) (bit p) X → post X) : MO_reachOf (nI W) (nI H) fl (nI p) bx post := by
  intro v e
  have e : v = bit p := e
  rw [e]
  exact ⟨65, MO_reachOf_8_spec hW hH hfl hp 65 (bit p) 0 (by rw [cnt_zero]; decide) (sub.rf _) (fun i _ q => by rw [tb_zero] at q; cases q) (lbd.rf _ _) (onB.bit hp64 hpB) (fun i j _ _ q _ => by rw [tb_zero] at q; cases q)⟩
