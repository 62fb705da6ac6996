/-! levels: how far a cell is -/
def lev (adv : Int64 → Int64) (S : Int64) : Nat → Int64
  | 0 => S
  | n + 1 => lev adv S n ||| adv (lev adv S n)
theorem lev_sub (adv : Int64 → Int64) (S : Int64) (n : Nat) : sub (lev adv S n) (lev adv S (n + 1)) := sub.or
theorem lev_mono {adv : Int64 → Int64} {S : Int64} {m : Nat} : ∀ {n : Nat}, m ≤ n → sub (lev adv S m) (lev adv S n) := by
  intro n
  induction n with
  | zero => intro h; rw [show m = 0 by omega]; exact sub.rf _
  | succ n ih =>
    intro h
    by_cases e : m = n + 1
    · rw [e]; exact sub.rf _
    · exact (ih (by omega)).tr (lev_sub adv S n)
theorem lev_st {adv : Int64 → Int64} {S : Int64} {n : Nat} (e : lev adv S (n + 1) = lev adv S n) : ∀ k, lev adv S (n + k) = lev adv S n := by
  intro k
  induction k with
  | zero => rfl
  | succ k ih =>
    show lev adv S (n + k) ||| adv (lev adv S (n + k)) = _
    rw [ih]
    exact e
theorem lev_cnt {adv : Int64 → Int64} {S : Int64} (h0 : adv 0 = 0) : ∀ n, lev adv S (n + 1) = lev adv S n ∨ n < cnt (lev adv S n) := by
  intro n
  induction n with
  | zero =>
    by_cases e : S = 0
    · left; show S ||| adv S = S; rw [e, h0]; rfl
    · exact Or.inr (cnt_pos e)
  | succ n ih =>
    by_cases e : lev adv S (n + 1) = lev adv S n
    · left
      have h2 := lev_st e 2
      have h1 := lev_st e 1
      exact h2.trans h1.symm
    · right
      rcases ih with g | g
      · exact absurd g e
      · have := sub.lt (lev_sub adv S n) e; omega
theorem lev_63 {adv : Int64 → Int64} {S : Int64} (h0 : adv 0 = 0) : lev adv S 64 = lev adv S 63 := by
  apply Classical.byContradiction
  intro e
  rcases lev_cnt (S := S) h0 63 with g | g
  · exact e g
  · have h1 := sub.lt (lev_sub adv S 63) e
    have h2 := cnt_le (lev adv S (63 + 1))
    omega
theorem lev_all {adv : Int64 → Int64} {S : Int64} (h0 : adv 0 = 0) (n : Nat) : sub (lev adv S n) (lev adv S 63) := by
  by_cases h : n ≤ 63
  · exact lev_mono h
  · have := lev_st (lev_63 (S := S) h0) (n - 63)
    rw [show 63 + (n - 63) = n by omega] at this
    rw [this]; exact sub.rf _
/-- the distance, as far as it is known after n rounds -/
def dv (V : Nat → Int64) : Nat → Nat → Int32
  | 0, c => if tb (V 0) c = true then 0 else -1
  | n + 1, c => if tb (V n) c = true then dv V n c else if tb (V (n + 1)) c = true then nI (n + 1) else -1
theorem dv_old {V : Nat → Int64} {n c : Nat} (h : tb (V n) c = true) : dv V (n + 1) c = dv V n c := by show (if _ then _ else _) = _; rw [if_pos h]
theorem dv_new {V : Nat → Int64} {n c : Nat} (h : tb (V n) c = false) (g : tb (V (n + 1)) c = true) : dv V (n + 1) c = nI (n + 1) := by
  show (if _ then _ else _) = _
  rw [if_neg (by rw [h]; decide), if_pos g]
theorem dv_out {V : Nat → Int64} {n c : Nat} (hV : ∀ n, sub (V n) (V (n + 1))) (hc : c < 64) (h : tb (V n) c = false) : dv V n c = -1 := by
  cases n with
  | zero => show (if _ then _ else _) = _; rw [if_neg (by rw [h]; decide)]
  | succ n =>
    show (if _ then _ else _) = _
    have : tb (V n) c = false := by
      cases e : tb (V n) c with
      | false => rfl
      | true => rw [hV n c hc e] at h; cases h
    rw [if_neg (by rw [this]; decide), if_neg (by rw [h]; decide)]
theorem dv_nat {V : Nat → Int64} (hV : ∀ n, sub (V n) (V (n + 1))) {c : Nat} (hc : c < 64) : ∀ n, tb (V n) c = true → ∃ m, m ≤ n ∧ dv V n c = nI m ∧ tb (V m) c = true ∧ (∀ k, k < m → tb (V k) c = false) := by
  intro n
  induction n with
  | zero => intro h; exact ⟨0, Nat.le_refl _, by show (if _ then _ else _) = _; rw [if_pos h]; rfl, h, fun k hk => absurd hk (Nat.not_lt_zero _)⟩
  | succ n ih =>
    intro h
    cases e : tb (V n) c with
    | true =>
      obtain ⟨m, h1, h2, h3, h4⟩ := ih e
      exact ⟨m, by omega, by rw [dv_old e, h2], h3, h4⟩
    | false =>
      refine ⟨n + 1, Nat.le_refl _, dv_new e h, h, fun k hk => ?_⟩
      have mono : ∀ d, sub (V k) (V (k + d)) := fun d => by
        induction d with
        | zero => exact sub.rf _
        | succ d ih => exact ih.tr (hV (k + d))
      cases f : tb (V k) c with
      | false => rfl
      | true =>
        have := mono (n - k) c hc f
        rw [show k + (n - k) = n by omega, e] at this
        cases this
theorem dv_up {V : Nat → Int64} (hV : ∀ n, sub (V n) (V (n + 1))) {c n : Nat} (hc : c < 64) (h : tb (V n) c = true) : ∀ d, dv V (n + d) c = dv V n c ∧ tb (V (n + d)) c = true := by
  intro d
  induction d with
  | zero => exact ⟨rfl, h⟩
  | succ d ih => exact ⟨(dv_old ih.2).trans ih.1, hV (n + d) c hc ih.2⟩
/-- two distances agree when the levels no longer grow -/
theorem dv_stay {V : Nat → Int64} (hV : ∀ n, sub (V n) (V (n + 1))) {n : Nat} (h : V (n + 1) = V n) {c : Nat} (hc : c < 64) : dv V (n + 1) c = dv V n c := by
  cases e : tb (V n) c with
  | true => exact dv_old e
  | false => rw [dv_out hV hc e, dv_out hV hc (by rw [h]; exact e)]
theorem dv_is {V : Nat → Int64} (hV : ∀ n, sub (V n) (V (n + 1))) {c n N : Nat} (hc : c < 64) (h : tb (V n) c = true) (h2 : ∀ k, k < n → tb (V k) c = false) (hN : n ≤ N) : dv V N c = nI n := by
  have h3 := (dv_up hV hc h (N - n)).1
  rw [show n + (N - n) = N by omega] at h3
  rw [h3]
  cases n with
  | zero => show (if _ then _ else _) = _; rw [if_pos h]; rfl
  | succ n => exact dv_new (h2 n (by omega)) h
theorem nI_m1 {n : Nat} (h : n < 2 ^ 31) : ¬ (-1 : Int32) = nI n := fun e => by
  have h1 := nI_pos h
  rw [← e] at h1
  exact h1 (by decide)
theorem dv_eq {V : Nat → Int64} (hV : ∀ n, sub (V n) (V (n + 1))) {c N n : Nat} (hc : c < 64) (hN : N ≤ 1000) (hn : n ≤ N) (h : dv V N c = nI n) : tb (V n) c = true ∧ ∀ k, k < n → tb (V k) c = false := by
  cases e : tb (V N) c with
  | false => rw [dv_out hV hc e] at h; exact absurd h (nI_m1 (by omega))
  | true =>
    obtain ⟨m, h1, h2, h3, h4⟩ := dv_nat hV hc N e
    rw [h2, nI_eq (by omega) (by omega)] at h
    subst h
    exact ⟨h3, h4⟩
/-! the person's way -/
def acR (free X : Int64) : Nat → Int64
  | 0 => 0
  | w + 1 => acR free X w ||| (sh X w &&& free)
theorem tb_acR {free X : Int64} {j : Nat} (hj : j < 64) : ∀ w, w ≤ 4 → (tb (acR free X w) j = true ↔ ∃ v, v < w ∧ ∃ i, i < 64 ∧ nb v i = some j ∧ tb X i = true ∧ tb free j = true) := by
  intro w
  induction w with
  | zero => intro _; show tb 0 j = true ↔ _; rw [tb_zero]; exact ⟨fun h => Bool.noConfusion h, fun ⟨v, h, _⟩ => absurd h (Nat.not_lt_zero _)⟩
  | succ w ih =>
    intro hw
    show tb (acR free X w ||| (sh X w &&& free)) j = true ↔ _
    rw [tb_or, tb_and, Bool.or_eq_true, Bool.and_eq_true, ih (by omega), tb_sh_iff (by omega) hj]
    constructor
    · rintro (⟨v, hv, r⟩ | ⟨⟨i, hi, h1, h2⟩, h3⟩)
      · exact ⟨v, by omega, r⟩
      · exact ⟨w, by omega, i, hi, h1, h2, h3⟩
    · rintro ⟨v, hv, i, hi, h1, h2, h3⟩
      by_cases e : v = w
      · subst e; exact Or.inr ⟨⟨i, hi, h1, h2⟩, h3⟩
      · exact Or.inl ⟨v, by omega, i, hi, h1, h2, h3⟩
def advR (free X : Int64) : Int64 := acR free X 4
theorem tb_advR {free X : Int64} {j : Nat} (hj : j < 64) : tb (advR free X) j = true ↔ ∃ i, i < 64 ∧ tb X i = true ∧ Er free i j := by
  unfold advR
  rw [tb_acR hj 4 (Nat.le_refl _)]
  constructor
  · rintro ⟨v, hv, i, hi, h1, h2, h3⟩; exact ⟨i, hi, h2, ⟨v, hv, h1⟩, h3⟩
  · rintro ⟨i, hi, h2, ⟨v, hv, h1⟩, h3⟩; exact ⟨v, hv, i, hi, h1, h2, h3⟩
theorem adv_zero {adv : Int64 → Int64} {E : Nat → Nat → Prop} (h : ∀ X j, j < 64 → (tb (adv X) j = true ↔ ∃ i, i < 64 ∧ tb X i = true ∧ E i j)) : adv 0 = 0 := tb_eq0 fun j hj => by
  cases e : tb (adv 0) j with
  | false => rfl
  | true =>
    obtain ⟨i, hi, h1, h2⟩ := (h 0 j hj).mp e
    rw [tb_zero] at h1; cases h1
theorem advR_0 (free : Int64) : advR free 0 = 0 := adv_zero (E := Er free) fun X j hj => tb_advR hj
/-- how many steps it is to a cell -/
def stR (free : Int64) (p c : Nat) : Int32 := dv (lev (advR free) (bit p)) 63 c
theorem BO_stepsTo_48_spec {fl bx ps free come : Int64} {k23 : Int64 → Int64 → Int64 → Int32 → Prop} {post : Int32 → Prop} {cell : Int64} {r : Int32} (h : k23 cell free (come ||| advR free come) (r + 1)) :
    ∀ n w, w ≤ 4 → 4 - w < n → BO_stepsTo_48 fl bx ps k23 post n cell free come r (acR free come w) (nI w) := by
  intro n
  induction n with
  | zero => intro w _ h; exact absurd h (Nat.not_lt_zero _)
  | succ n ih =>
    intro w hw hn
    unfold BO_stepsTo_48
    by_cases q : 4 ≤ w
    · rw [if_pos (kL q (by omega))]
      intro z ez
      rw [show w = 4 by omega] at ez
      rw [ez]
      exact h
    · rw [if_neg (kG (k := 4) (by omega) (by decide))]
      refine PB_shifted_spec (by omega) ?_
      intro z ez
      rw [nI_1, ez]
      exact ih (w + 1) (by omega) (by omega)
theorem BO_stepsTo_23_spec {fl bx ps free : Int64} {p c : Nat} {post : Int32 → Prop} (hc : c < 64) (h : post (stR free p c)) :
    ∀ n r, r ≤ 64 → 64 - r < n → (∀ k, k < r → tb (lev (advR free) (bit p) k) c = false) → BO_stepsTo_23 fl bx ps post n (bit c) free (lev (advR free) (bit p) r) (nI r) := by
  intro n
  induction n with
  | zero => intro r _ h; exact absurd h (Nat.not_lt_zero _)
  | succ n ih =>
    intro r hr hn hb
    have hV := lev_sub (advR free) (bit p)
    unfold BO_stepsTo_23
    by_cases q : 64 ≤ r
    · rw [if_pos (kL q (by omega))]
      have : stR free p c = -1 := dv_out hV hc (hb 63 (by omega))
      rw [this] at h
      exact h
    · rw [if_neg (kG (k := 64) (by omega) (by decide))]
      by_cases e : lev (advR free) (bit p) r &&& bit c = 0
      · rw [if_pos e]
        have e2 : tb (lev (advR free) (bit p) r) c = false := by
          have : tb (lev (advR free) (bit p) r &&& bit c) c = false := by rw [e]; exact tb_zero c
          rw [tb_and, tb_bit hc] at this
          simpa using this
        refine ⟨5, BO_stepsTo_48_spec ?_ 5 0 (by decide) (by decide)⟩
        rw [nI_1]
        refine ih (r + 1) (by omega) (by omega) (fun k hk => ?_)
        by_cases ek : k = r
        · rw [ek]; exact e2
        · exact hb k (by omega)
      · rw [if_neg e]
        have e2 : tb (lev (advR free) (bit p) r) c = true := by
          obtain ⟨i, hi, h1⟩ := tb_ne0 e
          rw [tb_and, tb_bit hc, Bool.and_eq_true] at h1
          have := of_decide_eq_true h1.2
          rw [← this]; exact h1.1
        have : stR free p c = nI r := dv_is hV hc e2 hb (by omega)
        rw [this] at h
        exact h
theorem BO_stepsTo_spec {fl bx : Int64} {p c : Nat} {post : Int32 → Prop} (hc : c < 64) (h : post (stR (fl &&& (bx ^^^ (-1))) p c)) : BO_stepsTo fl bx (bit p) (bit c) post := by
  intro v e
  rw [e]
  exact ⟨65, BO_stepsTo_23_spec hc h 65 0 (by decide) (by decide) (fun k hk => absurd hk (Nat.not_lt_zero _))⟩
/-! the reference's way -/
theorem vp_inN {k n : Nat} (h : k < n) (hn : n < 2 ^ 31) : vp_in (nI k) n := nI_in h hn
theorem upd_same (f : Nat → Int32) (k : Nat) (x : Int32) : upd f k x k = x := if_pos rfl
theorem upd_other (f : Nat → Int32) {k j : Nat} (x : Int32) (h : ¬ j = k) : upd f k x j = f j := if_neg h
theorem levR_on {W H p : Nat} {fl bx : Int64} (hp : p < 64) (hpB : p % 8 < W ∧ p / 8 < H) (hfl : onB W H fl) : ∀ n, onB W H (lev (advR (fl &&& (bx ^^^ (-1)))) (bit p) n) := by
  intro n
  induction n with
  | zero => exact onB.bit hp hpB
  | succ n ih =>
    refine ih.or (fun i hi e => ?_)
    obtain ⟨j, hj, h1, h2⟩ := (tb_advR hi).mp e
    have := h2.2
    rw [tb_diff, Bool.and_eq_true] at this
    exact hfl i hi this.1
theorem nb_ne : ∀ w, w < 4 → ∀ i, i < 64 → ¬ nb w i = some i := by decide +kernel
theorem MO_beside_c {W H c w : Nat} (hW : W ≤ 8) (hH : H ≤ 8) (hc : c < 64) (hw : w < 4) {post : Int32 → Prop} (h1 : ∀ j, nb w c = some j → j < 64 → (j % 8 < W ∧ j / 8 < H) → post (nI j)) (h2 : (∀ j, nb w c = some j → ¬ (j % 8 < W ∧ j / 8 < H)) → post (-1)) : MO_beside (nI W) (nI H) (nI c) (nI w) post := by
  refine MO_beside_spec hW hH hc hw ?_
  unfold bes
  cases e : nb w c with
  | none => exact h2 (fun j hj => by rw [e] at hj; cases hj)
  | some j =>
    show post (if j % 8 < W ∧ j / 8 < H then nI j else -1)
    by_cases hb : j % 8 < W ∧ j / 8 < H
    · rw [if_pos hb]; exact h1 j e (nb_lt w hw c hc j e) hb
    · rw [if_neg hb]; exact h2 (fun i hi => by rw [e] at hi; cases hi; exact hb)
theorem MO_way_115_spec {W H c r : Nat} {ps v1 v2 t : Int32} {fl bx : Int64} {k68 : Int32 → (Nat → Int32) → Int32 → Int32 → Int32 → Int32 → Prop} {post : Int32 → Int32 → (Nat → Int32) → Prop} {V : Nat → Int64} {f : Nat → Int32}
    (hW : W ≤ 8) (hH : H ≤ 8) (hc : c < 64) (hr : r < 64) (hon : onB W H (V r)) (hf : ∀ j, j < 64 → ¬ j = c → (f j = nI r ↔ tb (V r) j = true ∧ ∀ k, k < r → tb (V k) j = false))
    (hk : ∀ g, (∀ j, ¬ j = c → g j = f j) → ((∃ w, w < 4 ∧ ∃ j, nb w c = some j ∧ f j = nI r) → g c = nI (r + 1)) → ((∀ w, w < 4 → ∀ j, nb w c = some j → ¬ f j = nI r) → g c = f c) → k68 t g v1 v2 (nI r) (nI (c + 1))) :
    ∀ n w g, w ≤ 4 → 4 - w < n → (∀ j, ¬ j = c → g j = f j) → ((∃ v, v < w ∧ ∃ j, nb v c = some j ∧ f j = nI r) → g c = nI (r + 1)) → ((∀ v, v < w → ∀ j, nb v c = some j → ¬ f j = nI r) → g c = f c) → MO_way_115 (nI W) (nI H) ps fl bx k68 post n t g v1 v2 (nI r) (nI c) (nI w) := by
  intro n
  induction n with
  | zero => intro w g _ h; exact absurd h (Nat.not_lt_zero _)
  | succ n ih =>
    intro w g hw hn h1 h2 h3
    unfold MO_way_115
    by_cases q : 4 ≤ w
    · rw [if_pos (kL q (by omega)), nI_1]
      have hw4 : w = 4 := by omega
      subst hw4
      exact hk g h1 h2 h3
    · have hw4 : w < 4 := by omega
      rw [if_neg (kG (k := 4) (by omega) (by decide))]
      have skip : (∀ j, nb w c = some j → ¬ f j = nI r) → MO_way_115 (nI W) (nI H) ps fl bx k68 post n t g v1 v2 (nI r) (nI c) (nI w + 1) := fun hx => by
        rw [nI_1]
        refine ih (w + 1) g (by omega) (by omega) h1 (fun ⟨v, hv, j, e1, e2⟩ => ?_) (fun hh => h3 (fun v hv => hh v (by omega)))
        by_cases e : v = w
        · subst e; exact absurd e2 (hx j e1)
        · exact h2 ⟨v, by omega, j, e1, e2⟩
      refine MO_beside_c hW hH hc hw4 (fun j e hj hb => ?_) (fun hno => ?_)
      · have hjc : ¬ j = c := fun q => nb_ne w hw4 c hc (by rw [e, q])
        rw [if_neg (nI_pos (by omega))]
        refine MO_beside_c hW hH hc hw4 (fun j' e' _ _ => ?_) (fun hno => absurd hb (hno j e))
        rw [e] at e'
        cases e'
        refine ⟨vp_inN hj (by decide), ?_⟩
        rw [nI_clamp (by omega), h1 j hjc]
        by_cases hq : f j = nI r
        · rw [if_pos hq]
          intro x ex
          refine ⟨vp_inN hc (by decide), ?_⟩
          intro g2 eg
          rw [nI_clamp (by omega), ex, nI_1] at eg
          rw [nI_1]
          refine ih (w + 1) g2 (by omega) (by omega) (fun i hi => ?_) (fun _ => ?_) (fun hh => ?_)
          · rw [eg, upd_other _ _ hi]; exact h1 i hi
          · rw [eg, upd_same]
          · exact absurd hq (hh w (by omega) j e)
        · rw [if_neg hq]
          exact skip (fun i hi => by rw [e] at hi; cases hi; exact hq)
      · rw [if_pos (by decide)]
        refine skip (fun i hi hq => ?_)
        have hi64 := nb_lt w hw4 c hc i hi
        exact hno i hi (hon i hi64 ((hf i hi64 (fun q => nb_ne w hw4 c hc (by rw [hi, q]))).mp hq).1)
theorem lev_in {adv : Int64 → Int64} {S : Int64} {E : Nat → Nat → Prop} (ha : ∀ X j, j < 64 → (tb (adv X) j = true ↔ ∃ i, i < 64 ∧ tb X i = true ∧ E i j)) {n j : Nat} (hj : j < 64) : tb (lev adv S (n + 1)) j = true ↔ tb (lev adv S n) j = true ∨ ∃ i, i < 64 ∧ tb (lev adv S n) i = true ∧ E i j := by
  show tb (lev adv S n ||| adv (lev adv S n)) j = true ↔ _
  rw [tb_or, Bool.or_eq_true, ha _ j hj]
/-- a cell that is new in a round comes from one that was new in the round before -/
theorem lev_from {adv : Int64 → Int64} {S : Int64} {E : Nat → Nat → Prop} (ha : ∀ X j, j < 64 → (tb (adv X) j = true ↔ ∃ i, i < 64 ∧ tb X i = true ∧ E i j)) {n i j : Nat} (hi : i < 64) (hj : j < 64) (h1 : tb (lev adv S n) j = false) (h2 : tb (lev adv S n) i = true) (h3 : E i j) : ∀ k, k < n → tb (lev adv S k) i = false := fun k hk => by
  cases e : tb (lev adv S k) i with
  | false => rfl
  | true =>
    have := (lev_in (S := S) ha (n := k) hj).mpr (Or.inr ⟨i, hi, e, h3⟩)
    rw [lev_mono (show k + 1 ≤ n by omega) j hj this] at h1
    cases h1
theorem MO_way_68_spec {W H p r : Nat} {ps v1 v2 t : Int32} {fl bx : Int64} {k59 : Int32 → (Nat → Int32) → Int32 → Int32 → Int32 → Prop} {post : Int32 → Int32 → (Nat → Int32) → Prop} 
    (hW : W ≤ 8) (hH : H ≤ 8) (hr : r < 64) (hp : p < 64) (hpB : p % 8 < W ∧ p / 8 < H) (hfl : onB W H fl)
    (hk : ∀ g, (∀ j, j < 64 → g j = dv (lev (advR (fl &&& (bx ^^^ (-1)))) (bit p)) (r + 1) j) → k59 t g v1 v2 (nI (r + 1))) :
    ∀ n c f, c ≤ 64 → 64 - c < n → (∀ j, j < 64 → f j = if j < c then dv (lev (advR (fl &&& (bx ^^^ (-1)))) (bit p)) (r + 1) j else dv (lev (advR (fl &&& (bx ^^^ (-1)))) (bit p)) r j) → MO_way_68 (nI W) (nI H) ps fl bx k59 post n t f v1 v2 (nI r) (nI c) := by
  intro n
  induction n with
  | zero => intro c f _ h; exact absurd h (Nat.not_lt_zero _)
  | succ n ih =>
    intro c f hc hn hf
    have hV := lev_sub (advR (fl &&& (bx ^^^ (-1)))) (bit p)
    have ha : ∀ X j, j < 64 → (tb (advR (fl &&& (bx ^^^ (-1))) X) j = true ↔ ∃ i, i < 64 ∧ tb X i = true ∧ Er (fl &&& (bx ^^^ (-1))) i j) := fun X j hj => tb_advR hj
    have hon := levR_on (bx := bx) hp hpB hfl r
    generalize hVe : lev (advR (fl &&& (bx ^^^ (-1)))) (bit p) = V at *
    unfold MO_way_68
    by_cases q : 64 ≤ c
    · rw [if_pos (kL q (by omega)), nI_1]
      exact hk f (fun j hj => by rw [hf j hj, if_pos (by omega)])
    · have hc4 : c < 64 := by omega
      rw [if_neg (kG (k := 64) (by omega) (by decide))]
      have next : ∀ g, (∀ j, ¬ j = c → g j = f j) → g c = dv V (r + 1) c → MO_way_68 (nI W) (nI H) ps fl bx k59 post n t g v1 v2 (nI r) (nI (c + 1)) := fun g h1 h2 => by
        refine ih (c + 1) g (by omega) (by omega) (fun j hj => ?_)
        by_cases e : j = c
        · subst e; rw [if_pos (by omega)]; exact h2
        · rw [h1 j e, hf j hj]
          by_cases e2 : j < c
          · rw [if_pos e2, if_pos (by omega)]
          · rw [if_neg e2, if_neg (by omega)]
      have fc : f c = dv V r c := by rw [hf c hc4, if_neg (by omega)]
      have notfree : tb (fl &&& (bx ^^^ (-1))) c = false → dv V (r + 1) c = dv V r c := fun h => by
        cases e : tb (V r) c with
        | true => exact dv_old e
        | false =>
          rw [dv_out hV hc4 e]
          refine dv_out hV hc4 ?_
          cases e2 : tb (V (r + 1)) c with
          | false => rfl
          | true =>
            have := (lev_in (S := bit p) ha (n := r) hc4)
            rw [hVe] at this
            rcases this.mp e2 with g | ⟨i, _, _, g⟩
            · rw [g] at e; cases e
            · have := g.2; rw [h] at this; cases this
      refine MO_has_spec hc4 ?_
      cases e1 : tb fl c with
      | false => rw [if_pos b01F, nI_1]; exact next f (fun _ _ => rfl) (by rw [fc, notfree (by rw [tb_diff, e1]; rfl)])
      | true =>
        rw [if_neg b01T]
        refine MO_has_spec hc4 ?_
        cases e2 : tb bx c with
        | true => rw [if_neg b01T, nI_1]; exact next f (fun _ _ => rfl) (by rw [fc, notfree (by rw [tb_diff, e1, e2]; rfl)])
        | false =>
          rw [if_pos b01F]
          refine ⟨vp_inN hc4 (by decide), ?_⟩
          rw [nI_clamp (by omega), fc]
          cases e3 : tb (V r) c with
          | true =>
            obtain ⟨m, hm, h1, -, -⟩ := dv_nat hV hc4 r e3
            rw [h1, if_neg (nI_pos (by omega)), nI_1]
            exact next f (fun _ _ => rfl) (by rw [fc, dv_old e3])
          | false =>
            have hfr : tb (fl &&& (bx ^^^ (-1))) c = true := by rw [tb_diff, e1, e2]; rfl
            rw [dv_out hV hc4 e3, if_pos (by decide)]
            have hff : ∀ j, j < 64 → ¬ j = c → (f j = nI r ↔ tb (V r) j = true ∧ ∀ k, k < r → tb (V k) j = false) := fun j hj _ => by
              rw [hf j hj]
              constructor
              · intro h
                by_cases e : j < c
                · rw [if_pos e] at h; exact dv_eq hV hj (by omega) (by omega) h
                · rw [if_neg e] at h; exact dv_eq hV hj (by omega) (by omega) h
              · rintro ⟨h, h'⟩
                by_cases e : j < c
                · rw [if_pos e]; exact dv_is hV hj h h' (by omega)
                · rw [if_neg e]; exact dv_is hV hj h h' (by omega)
            refine ⟨5, MO_way_115_spec (V := V) (f := f) hW hH hc4 hr hon hff (fun g h1 h2 h3 => next g h1 ?_) 5 0 f (by decide) (by decide) (fun _ _ => rfl) (fun ⟨v, hv, _⟩ => absurd hv (Nat.not_lt_zero _)) (fun _ => rfl)⟩
            have step := (lev_in (S := bit p) ha (n := r) hc4)
            rw [hVe] at step
            cases e4 : tb (V (r + 1)) c with
            | true =>
              rw [dv_new e3 e4]
              rcases step.mp e4 with g | ⟨i, hi, hi2, g⟩
              · rw [g] at e3; cases e3
              · have h4 := lev_from (S := bit p) ha hi hc4 (n := r) (by rw [hVe]; exact e3) (by rw [hVe]; exact hi2) g
                rw [hVe] at h4
                obtain ⟨⟨w, hw, hnb⟩, -⟩ := g
                have hic : ¬ i = c := fun q => nb_ne w hw i hi (by rw [hnb, q])
                exact h2 ⟨opp w, opp_lt w, i, nb_sym hw hi hnb, (hff i hi hic).mpr ⟨hi2, h4⟩⟩
            | false =>
              rw [dv_out hV hc4 e4, h3 (fun w hw j hj hq => ?_), fc, dv_out hV hc4 e3]
              have hj64 := nb_lt w hw c hc4 j hj
              have hjc : ¬ j = c := fun q => nb_ne w hw c hc4 (by rw [hj, q])
              have := step.mpr (Or.inr ⟨j, hj64, ((hff j hj64 hjc).mp hq).1, ⟨opp w, opp_lt w, nb_sym hw hc4 hj⟩, hfr⟩)
              rw [e4] at this; cases this
theorem MO_way_59_spec {W H p x y : Nat} {ps t : Int32} {fl bx : Int64} {post : Int32 → Int32 → (Nat → Int32) → Prop} 
    (hW : W ≤ 8) (hH : H ≤ 8) (hx : x < W) (hy : y < H) (hp : p < 64) (hpB : p % 8 < W ∧ p / 8 < H) (hfl : onB W H fl)
    (h : ∀ g, post (stR (fl &&& (bx ^^^ (-1))) p (8 * y + x)) t g) :
    ∀ n r f, r ≤ 64 → 64 - r < n → (∀ j, j < 64 → f j = dv (lev (advR (fl &&& (bx ^^^ (-1)))) (bit p)) r j) → MO_way_59 (nI W) (nI H) ps fl bx post n t f (nI x) (nI y) (nI r) := by
  intro n
  induction n with
  | zero => intro r f _ h; exact absurd h (Nat.not_lt_zero _)
  | succ n ih =>
    intro r f hr hn hf
    unfold MO_way_59
    by_cases q : 64 ≤ r
    · have hr64 : r = 64 := by omega
      subst hr64
      rw [if_pos (kL q (by omega)), show (8 : Int32) = nI 8 from rfl, pk_mul, nI_add]
      refine ⟨vp_inN (by omega) (by decide), ?_⟩
      rw [nI_clamp (by omega), hf _ (by omega)]
      have hV := lev_sub (advR (fl &&& (bx ^^^ (-1)))) (bit p)
      rw [show (64 : Nat) = 63 + 1 from rfl, dv_stay hV (lev_63 (advR_0 _)) (by omega)]
      exact h f
    · rw [if_neg (kG (k := 64) (by omega) (by decide))]
      exact ⟨65, MO_way_68_spec hW hH (by omega) hp hpB hfl (fun g hg => ih (r + 1) g (by omega) (by omega) hg) 65 0 f (by decide) (by decide) (fun j hj => by rw [hf j hj, if_neg (Nat.not_lt_zero _)])⟩
theorem MO_way_26_spec {W H p : Nat} {x y t : Int32} {fl bx : Int64} {post : Int32 → Int32 → (Nat → Int32) → Prop} (hp : p < 64) 
    (h : ∀ f, (∀ j, j < 64 → f j = dv (lev (advR (fl &&& (bx ^^^ (-1)))) (bit p)) 0 j) → ∃ n', MO_way_59 (nI W) (nI H) (nI p) fl bx post n' t f x y 0) :
    ∀ n c f, c ≤ 64 → 64 - c < n → (∀ j, j < c → f j = dv (lev (advR (fl &&& (bx ^^^ (-1)))) (bit p)) 0 j) → MO_way_26 (nI W) (nI H) (nI p) fl bx post n t f x y (nI c) := by
  intro n
  induction n with
  | zero => intro r f _ h; exact absurd h (Nat.not_lt_zero _)
  | succ n ih =>
    intro c f hc hn hf
    unfold MO_way_26
    by_cases q : 64 ≤ c
    · rw [if_pos (kL q (by omega))]
      exact h f (fun j hj => hf j (by omega))
    · rw [if_neg (kG (k := 64) (by omega) (by decide))]
      have key : ∀ v : Int32, v = dv (lev (advR (fl &&& (bx ^^^ (-1)))) (bit p)) 0 c → ∀ g : Nat → Int32, g = upd f c v → ∀ j, j < c + 1 → g j = dv (lev (advR (fl &&& (bx ^^^ (-1)))) (bit p)) 0 j := fun v ev g eg j hj => by
        by_cases e : j = c
        · rw [eg, e, upd_same, ev]
        · rw [eg, upd_other _ _ e]; exact hf j (by omega)
      have e0 : dv (lev (advR (fl &&& (bx ^^^ (-1)))) (bit p)) 0 c = if c = p then 0 else -1 := by
        show (if tb (bit p) c = true then 0 else -1) = _
        rw [tb_bit hp]
        by_cases e : c = p <;> simp [e]
      by_cases e : c = p
      · rw [if_pos (by rw [e])]
        refine ⟨vp_inN (by omega) (by decide), fun g eg => ?_⟩
        rw [nI_clamp (by omega)] at eg
        rw [nI_1]
        exact ih (c + 1) g (by omega) (by omega) (key 0 (by rw [e0, if_pos e]) g eg)
      · rw [if_neg (fun h => e ((nI_eq (by omega) (by omega)).mp h))]
        refine ⟨vp_inN (by omega) (by decide), fun g eg => ?_⟩
        rw [nI_clamp (by omega)] at eg
        rw [nI_1]
        exact ih (c + 1) g (by omega) (by omega) (key (-1) (by rw [e0, if_neg e]) g eg)
/-! cells that there are -/
theorem cellQ (W H : Nat) (hW : W ≤ 8) (hH : H ≤ 8) (v1 v2 : Int32) : (∃ x y, x < W ∧ y < H ∧ v1 = nI x ∧ v2 = nI y) ∨ ((∀ (post : Int64 → Prop) (px : Int32 → Prop), px 1 → PB_existing (nI W) (nI H) v1 v2 post px) ∧ ∀ post : Int32 → Prop, post 0 → MO_isCell (nI W) (nI H) v1 v2 post) := by
  by_cases h1 : v1 < 0
  · right; exact ⟨fun post px h => by unfold PB_existing; rw [if_pos h1]; exact h, fun post h => by unfold MO_isCell; rw [if_pos h1]; exact h⟩
  · by_cases h2 : nI W ≤ v1
    · right; exact ⟨fun post px h => by unfold PB_existing; rw [if_neg h1, if_pos h2]; exact h, fun post h => by unfold MO_isCell; rw [if_neg h1, if_pos h2]; exact h⟩
    · by_cases h3 : v2 < 0
      · right; exact ⟨fun post px h => by unfold PB_existing; rw [if_neg h1, if_neg h2, if_pos h3]; exact h, fun post h => by unfold MO_isCell; rw [if_neg h1, if_neg h2, if_pos h3]; exact h⟩
      · obtain ⟨x, hx, ex⟩ := nI_of h1
        obtain ⟨y, hy, ey⟩ := nI_of h3
        rw [ex, nI_leI (by omega) hx] at h2
        by_cases h4 : y < H
        · left; exact ⟨x, y, by omega, h4, ex, ey⟩
        · right
          subst ex ey
          refine ⟨fun post px h => ?_, fun post h => ?_⟩
          · unfold PB_existing
            rw [if_neg h1, if_neg (by rw [nI_leI (by omega) hx]; exact h2), if_neg h3, if_neg (by rw [nI_ltI (by omega) (by omega)]; exact h4)]
            exact h
          · unfold MO_isCell
            rw [if_neg h1, if_neg (by rw [nI_leI (by omega) hx]; exact h2), if_neg h3, if_pos (by rw [nI_leI (by omega) (by omega)]; omega)]
            exact h
theorem PB_existing_spec {W H x y : Nat} (hW : W ≤ 8) (hH : H ≤ 8) (hx : x < W) (hy : y < H) {post : Int64 → Prop} {px : Int32 → Prop} (h : post (bit (8 * y + x))) : PB_existing (nI W) (nI H) (nI x) (nI y) post px := by
  unfold PB_existing
  rw [if_neg (nI_pos (by omega)), if_neg (nI_ge hx (by omega)), if_neg (nI_pos (by omega)), if_pos (nI_lt hy (by omega))]
  unfold PB_cellAt
  rw [show (8 : Int32) = nI 8 from rfl, pk_mul, nI_add]
  exact h
theorem MO_isCell_spec {W H x y : Nat} (hW : W ≤ 8) (hH : H ≤ 8) (hx : x < W) (hy : y < H) {post : Int32 → Prop} (h : post 1) : MO_isCell (nI W) (nI H) (nI x) (nI y) post := by
  unfold MO_isCell
  rw [if_neg (nI_pos (by omega)), if_neg (nI_ge hx (by omega)), if_neg (nI_pos (by omega)), if_neg (nI_ge hy (by omega))]
  exact h
theorem PB_way_spec {W H x y p : Nat} {fl bx : Int64} (hW : W ≤ 8) (hH : H ≤ 8) (hx : x < W) (hy : y < H) {post : Int32 → Prop} {px : Int32 → Prop} (h : post (stR (fl &&& (bx ^^^ (-1))) p (8 * y + x))) : PB_way (nI W) (nI H) fl bx (bit p) (nI x) (nI y) post px :=
  PB_existing_spec hW hH hx hy (BO_stepsTo_spec (by omega) h)
theorem MO_way_spec {W H x y p : Nat} {fl bx : Int64} {t : Int32} {f : Nat → Int32} (hW : W ≤ 8) (hH : H ≤ 8) (hx : x < W) (hy : y < H) (hp : p < 64) (hpB : p % 8 < W ∧ p / 8 < H) (hfl : onB W H fl) {post : Int32 → Int32 → (Nat → Int32) → Prop} (h : ∀ g, post (stR (fl &&& (bx ^^^ (-1))) p (8 * y + x)) 0 g) : MO_way (nI W) (nI H) (nI p) fl bx t f (nI x) (nI y) post := by
  refine MO_isCell_spec hW hH hx hy ?_
  rw [if_neg (by decide)]
  show MO_throwsIf _ _ _ _
  unfold MO_throwsIf
  rw [if_pos (by decide)]
  refine ⟨Or.inl rfl, ?_⟩
  dsimp only
  rw [if_pos rfl]
  exact ⟨65, MO_way_26_spec hp (fun g hg => ⟨65, MO_way_59_spec hW hH hx hy hp hpB hfl h 65 0 g (by decide) (by decide) hg⟩) 65 0 f (by decide) (by decide) (fun j hj => absurd hj (Nat.not_lt_zero _))⟩
