/-! live cells: by pulls from goals -/
def El (fl : Int64) (i c : Nat) : Prop := ∃ w, w < 4 ∧ nb w c = some i ∧ tb fl c = true ∧ (nb (opp w) c).any (fun j => tb fl j) = true
theorem BO_liveCells_19_spec {fl S come : Int64} {r : Nat} {k7 : Int64 → Int32 → Prop} {post : Int64 → Prop} (hS : sub S come) (hp : isCl (El fl) S come → post come)
    (hk : ∀ wider, sub come wider → ¬ wider = come → lbd (El fl) S wider → k7 wider (nI (r + 1))) :
    ∀ n way wider, way ≤ 4 → 4 - way < n → sub come wider → lbd (El fl) S wider → (∀ w, w < way → ∀ i c, i < 64 → c < 64 → tb come i = true → nb w c = some i → tb fl c = true → (nb (opp w) c).any (fun j => tb fl j) = true → tb wider c = true) → BO_liveCells_19 fl S k7 post n come (nI r) wider (nI way) := by
  intro n
  induction n with
  | zero => intro way wider _ h; exact absurd h (Nat.not_lt_zero _)
  | succ n ih =>
    intro way wider hw hn hsub hlb hadv
    unfold BO_liveCells_19
    by_cases q : 4 ≤ way
    · rw [if_pos (kL q (by omega))]
      by_cases e : wider = come
      · rw [if_pos e]
        refine hp ⟨hS, fun i c hi hc h1 h2 => ?_, by rw [← e]; exact hlb⟩
        obtain ⟨w, hw4, h3, h4, h5⟩ := h2
        have := hadv w (by omega) i c hi hc h1 h3 h4 h5
        rwa [e] at this
      · rw [if_neg e, nI_1]
        exact hk wider hsub e hlb
    · have hw4 : way < 4 := by omega
      rw [if_neg (kG (k := 4) (by omega) (by decide))]
      refine PB_against_spec hw4 (PB_shifted_spec (opp_lt way) (PB_shifted_spec hw4 ?_))
      intro z ez
      have hz : ∀ c, c < 64 → tb z c = (tb wider c || (tb fl c && (nb way c).any (fun j => tb wider j) && (nb (opp way) c).any (fun j => tb fl j))) := fun c hc => by
        rw [ez, tb_or, tb_and, tb_and, tb_sh (opp_lt way) hc, tb_sh hw4 hc, opp_opp way hw4]
      rw [nI_1]
      refine ih (way + 1) z (by omega) (by omega) (fun i hi h => by rw [hz i hi, hsub i hi h]; rfl) (hlb.grow fun c hc h => ?_) (fun w hw2 i c hi hc h1 h2 h3 h4 => ?_)
      · rw [hz c hc] at h
        cases f : tb wider c with
        | true => exact Or.inl rfl
        | false =>
          rw [f, Bool.false_or, Bool.and_eq_true, Bool.and_eq_true] at h
          cases g : nb way c with
          | none => have := h.1.2; rw [g] at this; cases this
          | some i =>
            have h9 := h.1.2
            rw [g] at h9
            exact Or.inr ⟨i, nb_lt way hw4 c hc i g, h9, way, hw4, g, h.1.1, h.2⟩
      · rw [hz c hc]
        by_cases e : w = way
        · subst e
          rw [h3, h4, h2]
          show (tb wider c || (true && tb wider i && true)) = true
          rw [hsub i hi h1]; simp
        · rw [hadv w (by omega) i c hi hc h1 h2 h3 h4]; rfl
theorem BO_liveCells_7_spec {fl S : Int64} {post : Int64 → Prop} (hp : ∀ X, isCl (El fl) S X → post X) :
    ∀ n r come, 64 - r < n → (come = 0 ∧ r = 0 ∨ r < cnt come) → sub S come → lbd (El fl) S come → BO_liveCells_7 fl S post n come (nI r) := by
  intro n
  induction n with
  | zero => intro r come h; exact absurd h (Nat.not_lt_zero _)
  | succ n ih =>
    intro r come hn hr hS hlb
    have hc := cnt_le come
    unfold BO_liveCells_7
    rw [if_neg (kG (k := 64) (by omega) (by decide))]
    refine ⟨5, BO_liveCells_19_spec hS (hp come) (fun wider h1 h2 h3 => ?_) 5 0 come (by decide) (by decide) (sub.rf come) hlb (fun w h => absurd h (Nat.not_lt_zero _))⟩
    have hlt := sub.lt h1 h2
    refine ih (r + 1) wider (by omega) (Or.inr ?_) (hS.tr h1) h3
    rcases hr with ⟨e, e2⟩ | hr
    · exfalso
      have hs0 : S = 0 := sub.eq (by rw [← e]; exact hS) (fun i _ q => by rw [tb_zero] at q; cases q)
      rw [hs0] at h3
      exact h2 (by rw [h3.zero, e])
    · omega
theorem BO_liveCells_spec {fl S : Int64} {post : Int64 → Prop} (hp : ∀ X, isCl (El fl) S X → post X) : BO_liveCells fl S post := by
  refine ⟨65, BO_liveCells_7_spec hp 65 0 S (by decide) ?_ (sub.rf S) (lbd.rf _ S)⟩
  by_cases h : S = 0
  · exact Or.inl ⟨h, rfl⟩
  · exact Or.inr (cnt_pos h)
theorem MO_live_52_spec {W H c : Nat} {fl S B : Int64} {k18 : Int64 → Int64 → Int32 → Prop} {post : Int64 → Prop} (hW : W ≤ 8) (hH : H ≤ 8) (hc : c < 64) (hfc : tb fl c = true) (hfl : onB W H fl)
    (hk : ∀ R, sub B R → lbd (El fl) S R → onB W H R → (∀ j, j < c + 1 → ∀ i, i < 64 → tb B i = true → El fl i j → tb R j = true) → k18 R B (nI (c + 1))) :
    ∀ n way R, way ≤ 4 → 4 - way < n → sub B R → lbd (El fl) S R → onB W H R → (∀ j, j < c → ∀ i, i < 64 → tb B i = true → El fl i j → tb R j = true) → (∀ w, w < way → ∀ i, nb w c = some i → tb B i = true → (nb (opp w) c).any (fun j => tb fl j) = true → tb R c = true) → MO_live_52 (nI W) (nI H) fl S k18 post n R B (nI c) (nI way) := by
  intro n
  induction n with
  | zero => intro way R _ h; exact absurd h (Nat.not_lt_zero _)
  | succ n ih =>
    intro way R hw hn hsub hlb hon hdone hadv
    unfold MO_live_52
    by_cases q : 4 ≤ way
    · rw [if_pos (kL q (by omega)), nI_1]
      refine hk R hsub hlb hon (fun j hj i hi h1 h2 => ?_)
      by_cases e : j = c
      · subst e
        obtain ⟨w, hw4, h3, h4, h5⟩ := h2
        exact hadv w (by omega) i h3 h1 h5
      · exact hdone j (by omega) i hi h1 h2
    · have hw4 : way < 4 := by omega
      rw [if_neg (kG (k := 4) (by omega) (by decide))]
      refine MO_beside_spec hW hH hc hw4 ?_
      refine has_bes hc hw4 hon ?_
      cases e : (nb way c).any (fun j => tb R j) with
      | false =>
        rw [if_pos b01F, nI_1]
        refine ih (way + 1) R (by omega) (by omega) hsub hlb hon hdone (fun w hw2 i h1 h2 h3 => ?_)
        by_cases e2 : w = way
        · subst e2
          rw [h1] at e
          have e : tb R i = false := e
          rw [hsub i (tb_lt h2) h2] at e
          cases e
        · exact hadv w (by omega) i h1 h2 h3
      | true =>
        rw [if_neg b01T]
        refine MO_against_spec hw4 (MO_beside_spec hW hH hc (opp_lt way) (has_bes hc (opp_lt way) hfl ?_))
        cases g : (nb (opp way) c).any (fun j => tb fl j) with
        | false =>
          rw [if_pos b01F, nI_1]
          refine ih (way + 1) R (by omega) (by omega) hsub hlb hon hdone (fun w hw2 i h1 h2 h3 => ?_)
          by_cases e2 : w = way
          · subst e2
            rw [g] at h3; cases h3
          · exact hadv w (by omega) i h1 h2 h3
        | true =>
          rw [if_neg b01T]
          intro z ez
          have ez : z = R ||| bit c := ez
          subst ez
          rw [nI_1]
          refine ih (way + 1) (R ||| bit c) (by omega) (by omega) (hsub.tr sub.or) (hlb.grow fun j hj h => ?_) (hon.or (onB.bit hc (hfl c hc hfc))) (fun j hj i hi h1 h2 => ?_) (fun w _ i _ _ _ => ?_)
          · rw [tb_orbit hc] at h
            cases f : tb R j with
            | true => exact Or.inl rfl
            | false =>
              rw [f, Bool.false_or] at h
              have hjc : j = c := of_decide_eq_true h
              subst hjc
              cases k : nb way j with
              | none => rw [k] at e; cases e
              | some i =>
                rw [k] at e
                exact Or.inr ⟨i, nb_lt way hw4 j hj i k, e, way, hw4, k, hfc, g⟩
          · rw [tb_orbit hc, hdone j hj i hi h1 h2]; rfl
          · rw [tb_orbit hc]; simp
theorem MO_live_18_spec {W H : Nat} {fl S B : Int64} {k7 : Int64 → Int64 → Prop} {post : Int64 → Prop} (hW : W ≤ 8) (hH : H ≤ 8) (hfl : onB W H fl)
    (hk : ∀ R, sub B R → lbd (El fl) S R → onB W H R → (∀ i j, i < 64 → j < 64 → tb B i = true → El fl i j → tb R j = true) → k7 R B) :
    ∀ n c R, c ≤ 64 → 64 - c < n → sub B R → lbd (El fl) S R → onB W H R → (∀ j, j < c → ∀ i, i < 64 → tb B i = true → El fl i j → tb R j = true) → MO_live_18 (nI W) (nI H) fl S k7 post n R B (nI c) := by
  intro n
  induction n with
  | zero => intro c R _ h; exact absurd h (Nat.not_lt_zero _)
  | succ n ih =>
    intro c R hc hn hsub hlb hon hdone
    unfold MO_live_18
    by_cases q : 64 ≤ c
    · rw [if_pos (kL q (by omega))]
      exact hk R hsub hlb hon (fun i j hi hj h1 h2 => hdone j (by omega) i hi h1 h2)
    · have hc4 : c < 64 := by omega
      have skip : (∀ i, i < 64 → tb B i = true → El fl i c → tb R c = true) → MO_live_18 (nI W) (nI H) fl S k7 post n R B (nI c + 1) := fun hx => by
        rw [nI_1]
        refine ih (c + 1) R (by omega) (by omega) hsub hlb hon (fun j hj i hi h1 h2 => ?_)
        by_cases e : j = c
        · subst e; exact hx i hi h1 h2
        · exact hdone j (by omega) i hi h1 h2
      rw [if_neg (kG (k := 64) (by omega) (by decide))]
      refine MO_has_spec hc4 ?_
      cases e1 : tb fl c with
      | false =>
        rw [if_pos b01F]
        exact skip (fun i _ _ h => by obtain ⟨w, -, -, h4, -⟩ := h; rw [e1] at h4; cases h4)
      | true =>
        rw [if_neg b01T]
        refine MO_has_spec hc4 ?_
        cases e3 : tb R c with
        | true => rw [if_neg b01T]; exact skip (fun _ _ _ _ => e3)
        | false =>
          rw [if_pos b01F]
          exact ⟨5, MO_live_52_spec hW hH hc4 e1 hfl (fun R' a1 a2 a3 a4 => ih (c + 1) R' (by omega) (by omega) a1 a2 a3 a4) 5 0 R (by decide) (by decide) hsub hlb hon hdone (fun w h => absurd h (Nat.not_lt_zero _))⟩
theorem MO_live_7_spec {W H : Nat} {fl S : Int64} {post : Int64 → Prop} (hW : W ≤ 8) (hH : H ≤ 8) (hfl : onB W H fl) (hp : ∀ X, isCl (El fl) S X → post X) :
    ∀ n R B, 64 - cnt B < n → sub S R → sub B R → lbd (El fl) S R → onB W H R → (∀ i j, i < 64 → j < 64 → tb B i = true → El fl i j → tb R j = true) → MO_live_7 (nI W) (nI H) fl S post n R B := by
  intro n
  induction n with
  | zero => intro R B h; exact absurd h (Nat.not_lt_zero _)
  | succ n ih =>
    intro R B hn hS hsub hlb hon hadv
    unfold MO_live_7
    by_cases e : R = B
    · rw [if_pos e]
      subst e
      exact hp R ⟨hS, hadv, hlb⟩
    · rw [if_neg e]
      have h1 := sub.lt hsub e
      have h2 := cnt_le R
      exact ⟨65, MO_live_18_spec hW hH hfl (fun R' a1 a2 a3 a4 => ih R' R (by omega) (hS.tr a1) a1 a2 a3 a4) 65 0 R (by decide) (by decide) (sub.rf R) hlb hon (fun j h => absurd h (Nat.not_lt_zero _))⟩
theorem MO_live_spec {W H : Nat} {fl S : Int64} {post : Int64 → Prop} (hW : W ≤ 8) (hH : H ≤ 8) (hfl : onB W H fl) (hS : onB W H S) (hp : ∀ X, isCl (El fl) S X → post X) : MO_live (nI W) (nI H) fl S post :=
  ⟨65, MO_live_7_spec hW hH hfl hp 65 S 0 (by rw [cnt_zero]; decide) (sub.rf _) (fun i _ q => by rw [tb_zero] at q; cases q) (lbd.rf _ _) hS (fun i j _ _ q _ => by rw [tb_zero] at q; cases q)⟩
theorem live_sub {W H : Nat} {fl S X : Int64} (h : isCl (El fl) S X) (hS : sub S fl) : sub X fl := h.2.2 fl hS (fun i j _ _ _ h2 => by obtain ⟨w, -, -, h4, -⟩ := h2; exact h4)
/-! boxes that stand fast -/
def goL (fl lv X : Int64) (w c : Nat) : Bool := (nb w c).any (fun j => tb fl j && !tb X j) && (nb (opp w) c).any (fun j => tb fl j && !tb X j) && ((nb w c).any (fun j => tb lv j) || (nb (opp w) c).any (fun j => tb lv j))
def canB (fl lv X : Int64) (c : Nat) : Bool := goL fl lv X 0 c || goL fl lv X 1 c
def isSt (fl lv S Z : Int64) : Prop := sub Z S ∧ (∀ c, c < 64 → tb Z c = true → canB fl lv Z c = false) ∧ ∀ Y, sub Y S → (∀ c, c < 64 → tb Y c = true → canB fl lv Y c = false) → sub Y Z
theorem isSt.uniq {fl lv S X Y : Int64} (h : isSt fl lv S X) (g : isSt fl lv S Y) : X = Y := sub.eq (g.2.2 X h.1 h.2.1) (h.2.2 Y g.1 g.2.1)
theorem any_mono {o : Option Nat} {f g : Nat → Bool} (h : ∀ j, o = some j → f j = true → g j = true) (hf : o.any f = true) : o.any g = true := by
  cases e : o with
  | none => rw [e] at hf; cases hf
  | some j => rw [e] at hf; exact h j e hf
theorem goL_anti {fl lv X Y : Int64} {w c : Nat} (hw : w < 4) (hc : c < 64) (h : sub Y X) (hg : goL fl lv X w c = true) : goL fl lv Y w c = true := by
  unfold goL at hg ⊢
  rw [Bool.and_eq_true, Bool.and_eq_true] at hg ⊢
  have key : ∀ w, w < 4 → (nb w c).any (fun j => tb fl j && !tb X j) = true → (nb w c).any (fun j => tb fl j && !tb Y j) = true := fun w hw q => any_mono (fun j ej q2 => by
    rw [Bool.and_eq_true] at q2 ⊢
    refine ⟨q2.1, ?_⟩
    cases f : tb Y j with
    | false => rfl
    | true => have := q2.2; rw [h j (nb_lt w hw c hc j ej) f] at this; cases this) q
  exact ⟨⟨key w hw hg.1.1, key (opp w) (opp_lt w) hg.1.2⟩, hg.2⟩
theorem canB_anti {fl lv X Y : Int64} {c : Nat} (hc : c < 64) (h : sub Y X) (hg : canB fl lv X c = true) : canB fl lv Y c = true := by
  unfold canB at hg ⊢
  rw [Bool.or_eq_true] at hg ⊢
  rcases hg with q | q
  · exact Or.inl (goL_anti (by decide) hc h q)
  · exact Or.inr (goL_anti (by decide) hc h q)
/-- what all stable sets stay below -/
def ubS (fl lv S X : Int64) : Prop := ∀ Y, sub Y S → (∀ c, c < 64 → tb Y c = true → canB fl lv Y c = false) → sub Y X
theorem ubS.cut {fl lv S X Z : Int64} (h : ubS fl lv S X) (hz : ∀ c, c < 64 → tb X c = true → tb Z c = true ∨ canB fl lv X c = true) : ubS fl lv S Z := fun Y h1 h2 c hc q => by
  have h3 := h Y h1 h2
  rcases hz c hc (h3 c hc q) with g | g
  · exact g
  · have := canB_anti hc h3 g; rw [h2 c hc q] at this; cases this
theorem BO_standing_5_spec {fl lv S : Int64} {post : Int64 → Prop} (hp : ∀ X, isSt fl lv S X → post X) :
    ∀ n r X, cnt X + r ≤ 12 → 13 - r < n → sub X S → ubS fl lv S X → BO_standing_5 fl (sh lv 0 ||| sh lv 2) (sh lv 1 ||| sh lv 3) post n X (nI r) := by
  intro n
  induction n with
  | zero => intro r X _ h; exact absurd h (Nat.not_lt_zero _)
  | succ n ih =>
    intro r X hr hn hsub hub
    unfold BO_standing_5
    rw [show (12 : Int32) = nI 12 from rfl, if_neg (nI_nlt (a := 12) (b := r) (by omega) (by decide))]
    intro o eo
    refine PB_shifted_spec (w := 0) (by decide) (PB_shifted_spec (w := 2) (by decide) ?_)
    intro a ea
    refine PB_shifted_spec (w := 1) (by decide) (PB_shifted_spec (w := 3) (by decide) ?_)
    intro b eb z ez
    have ho : ∀ j, tb o j = (tb fl j && !tb X j) := fun j => by rw [eo, tb_diff]
    have ha : ∀ c, c < 64 → tb a c = goL fl lv X 0 c := fun c hc => by
      rw [ea, tb_and, tb_and, tb_or, tb_sh (by decide) hc, tb_sh (by decide) hc, tb_sh (by decide) hc, tb_sh (by decide) hc]
      unfold goL
      rw [show opp 0 = 2 from rfl, show opp 2 = 0 from rfl]
      simp only [ho]
      rw [Bool.and_comm ((nb 2 c).any _) ((nb 0 c).any _), Bool.or_comm ((nb 2 c).any _) ((nb 0 c).any _)]
    have hb : ∀ c, c < 64 → tb b c = goL fl lv X 1 c := fun c hc => by
      rw [eb, tb_and, tb_and, tb_or, tb_sh (by decide) hc, tb_sh (by decide) hc, tb_sh (by decide) hc, tb_sh (by decide) hc]
      unfold goL
      rw [show opp 1 = 3 from rfl, show opp 3 = 1 from rfl]
      simp only [ho]
      rw [Bool.and_comm ((nb 3 c).any _) ((nb 1 c).any _), Bool.or_comm ((nb 3 c).any _) ((nb 1 c).any _)]
    have hz : ∀ c, c < 64 → tb z c = (tb X c && !canB fl lv X c) := fun c hc => by rw [ez, tb_diff, tb_or, ha c hc, hb c hc]; rfl
    have hzX : sub z X := fun c hc q => by rw [hz c hc, Bool.and_eq_true] at q; exact q.1
    by_cases e : z = X
    · rw [if_pos e]
      refine hp X ⟨hsub, fun c hc q => ?_, hub⟩
      have := hz c hc
      rw [e, q] at this
      cases f : canB fl lv X c with
      | false => rfl
      | true => rw [f] at this; cases this
    · rw [if_neg e, nI_1]
      have hlt := sub.lt hzX (fun q => e q.symm)
      refine ih (r + 1) z (by omega) (by omega) (hzX.tr hsub) (hub.cut fun c hc q => ?_)
      cases f : canB fl lv X c with
      | true => exact Or.inr rfl
      | false => exact Or.inl (by rw [hz c hc, q, f]; rfl)
theorem BO_standing_spec {fl lv S : Int64} {post : Int64 → Prop} (hc : cnt S ≤ 12) (hp : ∀ X, isSt fl lv S X → post X) : BO_standing fl (sh lv 0 ||| sh lv 2) (sh lv 1 ||| sh lv 3) S post :=
  ⟨14, BO_standing_5_spec hp 14 0 S (by omega) (by decide) (sub.rf S) (fun Y h _ => h)⟩
theorem MO_canGo_spec {W H c w : Nat} {fl lv X : Int64} (hW : W ≤ 8) (hH : H ≤ 8) (hc : c < 64) (hw : w < 4) (hfl : onB W H fl) (hlv : onB W H lv) (hX : onB W H X) {post : Int32 → Prop} (h : post (b01 (goL fl lv X w c))) : MO_canGo (nI W) (nI H) fl (nI c) (nI w) X lv post := by
  refine MO_beside_spec hW hH hc hw (MO_against_spec hw (MO_beside_spec hW hH hc (opp_lt w) ?_))
  have split : ∀ (o : Option Nat), o.any (fun j => tb fl j && !tb X j) = (o.any (fun j => tb fl j) && !o.any (fun j => tb X j)) ∨ o = none := fun o => by cases o <;> simp
  have e1 : ∀ (o : Option Nat), o.any (fun j => tb fl j && !tb X j) = (o.any (fun j => tb fl j) && !o.any (fun j => tb X j)) := fun o => by cases o <;> simp
  unfold goL at h
  rw [e1, e1] at h
  refine has_bes hc hw hfl ?_
  cases f1 : (nb w c).any (fun j => tb fl j) with
  | false => rw [if_pos b01F]; rw [f1] at h; simp only [Bool.false_and] at h; exact h
  | true =>
    rw [if_neg b01T]
    refine has_bes hc (opp_lt w) hfl ?_
    cases f2 : (nb (opp w) c).any (fun j => tb fl j) with
    | false => rw [if_pos b01F]; rw [f1, f2] at h; simp only [Bool.false_and, Bool.and_false] at h; exact h
    | true =>
      rw [if_neg b01T]
      refine has_bes hc hw hX ?_
      cases f3 : (nb w c).any (fun j => tb X j) with
      | true => rw [if_neg b01T]; rw [f1, f2, f3] at h; exact h
      | false =>
        rw [if_pos b01F]
        refine has_bes hc (opp_lt w) hX ?_
        cases f4 : (nb (opp w) c).any (fun j => tb X j) with
        | true => rw [if_neg b01T]; rw [f1, f2, f3, f4] at h; exact h
        | false =>
          rw [if_pos b01F]
          rw [f1, f2, f3, f4] at h
          refine has_bes hc hw hlv ?_
          cases f5 : (nb w c).any (fun j => tb lv j) with
          | true => rw [if_neg b01T]; rw [f5] at h; exact h
          | false =>
            rw [if_pos b01F]
            refine has_bes hc (opp_lt w) hlv ?_
            rw [f5] at h
            cases f6 : (nb (opp w) c).any (fun j => tb lv j) with
            | true => rw [if_neg b01T]; rw [f6] at h; exact h
            | false => rw [if_pos b01F]; rw [f6] at h; exact h
theorem tb_clr {k : Nat} (hk : k < 64) (x : Int64) (i : Nat) : tb (x &&& (bit k ^^^ (-1))) i = (tb x i && !decide (i = k)) := by rw [tb_diff, tb_bit hk]
theorem MO_fastOf_21_spec {W H : Nat} {fl lv S B : Int64} {k6 : Int64 → Int64 → Int64 → Prop} {post : Int64 → Prop} (hW : W ≤ 8) (hH : H ≤ 8) (hfl : onB W H fl) (hlv : onB W H lv) (hS : onB W H S)
    (hk : ∀ X, sub X B → sub X S → ubS fl lv S X → (X = B → ∀ c, c < 64 → tb X c = true → canB fl lv X c = false) → k6 lv X B) :
    ∀ n c X, c ≤ 64 → 64 - c < n → sub X B → sub X S → ubS fl lv S X → (X = B → ∀ j, j < c → tb X j = true → canB fl lv X j = false) → MO_fastOf_21 (nI W) (nI H) fl k6 post n lv X B (nI c) := by
  intro n
  induction n with
  | zero => intro c X _ h; exact absurd h (Nat.not_lt_zero _)
  | succ n ih =>
    intro c X hc hn hXB hXS hub hdone
    unfold MO_fastOf_21
    by_cases q : 64 ≤ c
    · rw [if_pos (kL q (by omega))]
      exact hk X hXB hXS hub (fun e c2 hc2 h => hdone e c2 (by omega) h)
    · have hc4 : c < 64 := by omega
      rw [if_neg (kG (k := 64) (by omega) (by decide))]
      have hX := hS.sub hXS
      have skip : (tb X c = true → canB fl lv X c = false) → MO_fastOf_21 (nI W) (nI H) fl k6 post n lv X B (nI c + 1) := fun hx => by
        rw [nI_1]
        refine ih (c + 1) X (by omega) (by omega) hXB hXS hub (fun e j hj h => ?_)
        by_cases e2 : j = c
        · subst e2; exact hx h
        · exact hdone e j (by omega) h
      have cut : tb X c = true → canB fl lv X c = true → MO_fastOf_64 (nI W) (nI H) fl (fun v3' v5' v7' v9' => MO_fastOf_21 (nI W) (nI H) fl k6 post n v3' v5' v7' v9') post lv X B (nI c) := fun h1 h2 => by
        intro z ez
        have ez : z = X &&& (bit c ^^^ (-1)) := ez
        rw [nI_1]
        have hz : ∀ i, tb z i = (tb X i && !decide (i = c)) := fun i => by rw [ez, tb_clr hc4]
        have hzX : sub z X := fun i _ q => by rw [hz, Bool.and_eq_true] at q; exact q.1
        refine ih (c + 1) z (by omega) (by omega) (hzX.tr hXB) (hzX.tr hXS) (hub.cut fun i hi g => ?_) (fun e => ?_)
        · by_cases e2 : i = c
          · subst e2; exact Or.inr h2
          · exact Or.inl (by rw [hz, g]; simp [e2])
        · exfalso
          have := hXB c hc4 h1
          rw [← e, hz] at this
          simp at this
      refine MO_has_spec hc4 ?_
      cases e1 : tb X c with
      | false => rw [if_pos b01F]; exact skip (fun h => by rw [e1] at h; cases h)
      | true =>
        rw [if_neg b01T]
        refine MO_canGo_spec (w := 0) hW hH hc4 (by decide) hfl hlv hX ?_
        cases e2 : goL fl lv X 0 c with
        | true => rw [if_neg b01T]; exact cut e1 (by unfold canB; rw [e2]; rfl)
        | false =>
          rw [if_pos b01F]
          refine MO_canGo_spec (w := 1) hW hH hc4 (by decide) hfl hlv hX ?_
          cases e3 : goL fl lv X 1 c with
          | true => rw [if_neg b01T]; exact cut e1 (by unfold canB; rw [e3]; simp)
          | false => rw [if_pos b01F]; exact skip (fun _ => by unfold canB; rw [e2, e3]; rfl)
theorem MO_fastOf_6_spec {W H : Nat} {fl lv S : Int64} {post : Int64 → Prop} (hW : W ≤ 8) (hH : H ≤ 8) (hfl : onB W H fl) (hlv : onB W H lv) (hS : onB W H S) (hp : ∀ X, isSt fl lv S X → post X) :
    ∀ n X B, cnt X + 1 < n → (X = B → ∀ c, c < 64 → tb X c = true → canB fl lv X c = false) → sub X S → ubS fl lv S X → MO_fastOf_6 (nI W) (nI H) fl post n lv X B := by
  intro n
  induction n with
  | zero => intro X B h; exact absurd h (Nat.not_lt_zero _)
  | succ n ih =>
    intro X B hn hst hXS hub
    unfold MO_fastOf_6
    by_cases e : X = B
    · rw [if_pos e]
      exact hp X ⟨hXS, hst e, hub⟩
    · rw [if_neg e]
      refine ⟨65, MO_fastOf_21_spec hW hH hfl hlv hS (fun X' a1 a2 a3 a4 => ?_) 65 0 X (by decide) (by decide) (sub.rf X) hXS hub (fun _ j h => absurd h (Nat.not_lt_zero _))⟩
      by_cases e2 : X' = X
      · -- nothing went: it ends at the next look
        subst e2
        cases n with
        | zero =>
          exact absurd hn (by omega)
        | succ n =>
          unfold MO_fastOf_6
          rw [if_pos rfl]
          exact hp X' ⟨hXS, a4 rfl, hub⟩
      · have hlt := sub.lt a1 (fun q => e2 q.symm)
        exact ih X' X (by omega) (fun q => absurd q e2) a2 a3
theorem MO_fastOf_spec {W H : Nat} {fl lv S : Int64} {post : Int64 → Prop} (hW : W ≤ 8) (hH : H ≤ 8) (hfl : onB W H fl) (hlv : onB W H lv) (hS : onB W H S) (hp : ∀ X, isSt fl lv S X → post X) : MO_fastOf (nI W) (nI H) fl S lv post :=
  ⟨cnt S + 2, MO_fastOf_6_spec hW hH hfl hlv hS hp (cnt S + 2) S 0 (by omega) (fun e c hc h => by rw [e, tb_zero] at h; cases h) (sub.rf S) (fun Y h _ => h)⟩
