/-! cells and their neighbours on the eight by eight -/
def nb (w i : Nat) : Option Nat :=
  if w = 0 then (if i % 8 = 7 then none else some (i + 1))
  else if w = 1 then (if 56 ≤ i then none else some (i + 8))
  else if w = 2 then (if i % 8 = 0 then none else some (i - 1))
  else (if i < 8 then none else some (i - 8))
def opp (w : Nat) : Nat := (w + 2) % 4
theorem opp_lt (w : Nat) : opp w < 4 := Nat.mod_lt _ (by decide)
theorem opp_opp : ∀ w, w < 4 → opp (opp w) = w := by decide +kernel
theorem nb_all : ∀ w, w < 4 → ∀ i, i < 64 → ∀ j, j < 64 → (nb w i = some j ↔ nb (opp w) j = some i) := by decide +kernel
theorem nb_lt : ∀ w, w < 4 → ∀ i, i < 64 → ∀ j, nb w i = some j → j < 64 := by
  have h : ∀ w, w < 4 → ∀ i, i < 64 → (nb w i).all (fun j => decide (j < 64)) = true := by decide +kernel
  intro w hw i hi j e
  have := h w hw i hi
  rw [e] at this
  simpa using this
theorem nb_sym {w i j : Nat} (hw : w < 4) (hi : i < 64) (h : nb w i = some j) : nb (opp w) j = some i := (nb_all w hw i hi j (nb_lt w hw i hi j h)).mp h
theorem nb_sym' {w i j : Nat} (hw : w < 4) (hi : i < 64) (h : nb (opp w) i = some j) : nb w j = some i := by
  have := nb_sym (opp_lt w) hi h
  rwa [opp_opp w hw] at this
/-- all cells one further in a way -/
def sh (x : Int64) (w : Nat) : Int64 :=
  if w = 0 then (x &&& (9187201950435737471 : Int64)) <<< ((nI 1).toInt64 &&& 63)
  else if w = 1 then x <<< ((nI 8).toInt64 &&& 63)
  else if w = 2 then ((x &&& (-72340172838076674 : Int64)).toUInt64 >>> ((nI 1).toInt64.toUInt64 &&& Int64.toUInt64 63)).toInt64
  else (x.toUInt64 >>> ((nI 8).toInt64.toUInt64 &&& Int64.toUInt64 63)).toInt64
theorem PB_shifted_spec {x : Int64} {w : Nat} (hw : w < 4) {post : Int64 → Prop} (h : post (sh x w)) : PB_shifted x (nI w) post := by
  unfold PB_shifted
  rcases (show w = 0 ∨ w = 1 ∨ w = 2 ∨ w = 3 by omega) with rfl | rfl | rfl | rfl
  · rw [if_pos (by decide)]; exact h
  · rw [if_neg (by decide), if_pos (by decide)]; exact h
  · rw [if_neg (by decide), if_neg (by decide), if_pos (by decide)]; exact h
  · rw [if_neg (by decide), if_neg (by decide), if_neg (by decide)]; exact h
theorem tb_c0 : ∀ i, i < 64 → tb (9187201950435737471 : Int64) i = decide (i % 8 ≠ 7) := by decide +kernel
theorem tb_c2 : ∀ i, i < 64 → tb (-72340172838076674 : Int64) i = decide (i % 8 ≠ 0) := by decide +kernel
theorem tb_sh {x : Int64} {w i : Nat} (hw : w < 4) (hi : i < 64) : tb (sh x w) i = (nb (opp w) i).any (fun j => tb x j) := by
  unfold sh
  rcases (show w = 0 ∨ w = 1 ∨ w = 2 ∨ w = 3 by omega) with rfl | rfl | rfl | rfl
  · rw [if_pos rfl, tb_shl (by decide)]
    show _ = (if i % 8 = 0 then none else some (i - 1)).any _
    by_cases h : i % 8 = 0
    · rw [if_pos h]
      by_cases h1 : 1 ≤ i
      · rw [tb_and, tb_c0 (i - 1) (by omega)]
        have : ¬ (i - 1) % 8 ≠ 7 := by omega
        simp [this]
      · simp [h1]
    · rw [if_neg h, tb_and, tb_c0 (i - 1) (by omega)]
      have h1 : 1 ≤ i := by omega
      have h2 : (i - 1) % 8 ≠ 7 := by omega
      simp [h1, h2, hi]
  · rw [if_neg (by decide), if_pos rfl, tb_shl (by decide)]
    show _ = (if i < 8 then none else some (i - 8)).any _
    by_cases h : i < 8
    · rw [if_pos h]; simp; omega
    · rw [if_neg h]; simp [hi]; omega
  · rw [if_neg (by decide), if_neg (by decide), if_pos rfl, tb_ush (by decide), tb_and]
    show _ = (if i % 8 = 7 then none else some (i + 1)).any _
    by_cases h : i % 8 = 7
    · rw [if_pos h]
      by_cases h1 : 1 + i < 64
      · rw [tb_c2 (1 + i) h1]
        have : ¬ (1 + i) % 8 ≠ 0 := by omega
        simp [this]
      · rw [tb_big (x := x) (by omega)]; rfl
    · rw [if_neg h, tb_c2 (1 + i) (by omega)]
      have h2 : (1 + i) % 8 ≠ 0 := by omega
      rw [decide_eq_true h2, Bool.and_true, Nat.add_comm]; rfl
  · rw [if_neg (by decide), if_neg (by decide), if_neg (by decide), tb_ush (by decide)]
    show _ = (if 56 ≤ i then none else some (i + 8)).any _
    by_cases h : 56 ≤ i
    · rw [if_pos h, tb_big (by omega)]; rfl
    · rw [if_neg h, Nat.add_comm]; rfl
theorem tb_sh_iff {x : Int64} {w i : Nat} (hw : w < 4) (hi : i < 64) : tb (sh x w) i = true ↔ ∃ j, j < 64 ∧ nb w j = some i ∧ tb x j = true := by
  rw [tb_sh hw hi]
  constructor
  · intro h
    cases e : nb (opp w) i with
    | none => rw [e] at h; cases h
    | some j =>
      rw [e] at h
      exact ⟨j, nb_lt _ (opp_lt w) i hi j e, nb_sym' hw hi e, h⟩
  · rintro ⟨j, hj, e, h⟩
    rw [nb_sym hw hj e]
    exact h
theorem PB_against_spec {w : Nat} (hw : w < 4) {post : Int32 → Prop} (h : post (nI (opp w))) : PB_against (nI w) post := by
  unfold PB_against
  rcases (show w = 0 ∨ w = 1 ∨ w = 2 ∨ w = 3 by omega) with rfl | rfl | rfl | rfl <;> exact h
theorem MO_against_spec {w : Nat} (hw : w < 4) {post : Int32 → Prop} (h : post (nI (opp w))) : MO_against (nI w) post := by
  unfold MO_against
  rcases (show w = 0 ∨ w = 1 ∨ w = 2 ∨ w = 3 by omega) with rfl | rfl | rfl | rfl <;> exact h
def b01 (b : Bool) : Int32 := if b = true then 1 else 0
theorem b01F : b01 false = 0 := rfl
theorem b01T : ¬ b01 true = 0 := by decide
theorem b01_0 {b : Bool} : b01 b = 0 ↔ b = false := by cases b <;> decide
theorem PB_has_spec {x : Int64} {k : Nat} (hk : k < 64) {post : Int32 → Prop} (h : post (b01 (tb x k))) : PB_has x (nI k) post := by
  unfold PB_has
  rw [tb_lsr hk]
  cases e : tb x k with
  | true => rw [e] at h; exact h
  | false => rw [e] at h; exact h
theorem MO_has_spec {x : Int64} {k : Nat} (hk : k < 64) {post : Int32 → Prop} (h : post (b01 (tb x k))) : MO_has x (nI k) post := by
  unfold MO_has
  rw [if_neg (nI_pos (by omega)), tb_sar hk]
  cases e : tb x k with
  | true => rw [e] at h; exact h
  | false => rw [e] at h; exact h
theorem MO_has_neg {x : Int64} {post : Int32 → Prop} (h : post 0) : MO_has x (-1) post := by
  unfold MO_has
  rw [if_pos (by decide)]
  exact h
/-! the reference's neighbour -/
def bes (W H w c : Nat) : Int32 := match nb w c with
  | some j => if j % 8 < W ∧ j / 8 < H then nI j else -1
  | none => -1
theorem bes47 {W H a b : Nat} (hW : W ≤ 8) (hH : H ≤ 8) (ha : a ≤ 8) (hb : b ≤ 8) {t0 t1 : Int32} (e : t0 + t1 = nI b) {post : Int32 → Prop} (h : post (if a < W ∧ b < H then nI (8 * b + a) else -1)) : MO_beside_47 (nI W) (nI H) post (nI a) t0 t1 := by
  intro v e1
  rw [e1, e]
  unfold MO_isCell
  rw [if_neg (nI_pos (by omega))]
  by_cases h1 : a < W
  · rw [if_neg (nI_ge h1 (by omega)), if_neg (nI_pos (by omega))]
    by_cases h2 : b < H
    · rw [if_neg (nI_ge h2 (by omega))]; dsimp only; rw [if_neg (by decide)]
      rw [if_pos ⟨h1, h2⟩] at h
      rw [show (8 : Int32) = nI 8 from rfl, pk_mul, nI_add]
      exact h
    · rw [if_pos (nI_le (by omega) (by omega))]; dsimp only; rw [if_pos rfl]
      rw [if_neg (by omega)] at h
      exact h
  · rw [if_pos (nI_le (by omega) (by omega))]; dsimp only; rw [if_pos rfl]
    rw [if_neg (by omega)] at h
    exact h
theorem bes47y {W H a : Nat} (hW : W ≤ 8) (ha : a ≤ 8) {t0 t1 : Int32} (e : t0 + t1 = -1) {post : Int32 → Prop} (h : post (-1)) : MO_beside_47 (nI W) (nI H) post (nI a) t0 t1 := by
  intro v e1
  rw [e1, e]
  unfold MO_isCell
  rw [if_neg (nI_pos (by omega))]
  by_cases h1 : a < W
  · rw [if_neg (nI_ge h1 (by omega)), if_pos (by decide)]; dsimp only; rw [if_pos rfl]
    exact h
  · rw [if_pos (nI_le (by omega) (by omega))]; dsimp only; rw [if_pos rfl]
    exact h
theorem bes47x {W H : Nat} {t0 t1 : Int32} {post : Int32 → Prop} (h : post (-1)) : MO_beside_47 (nI W) (nI H) post (-1) t0 t1 := by
  intro v e1
  unfold MO_isCell
  rw [if_pos (by decide)]; dsimp only; rw [if_pos rfl]
  exact h
theorem nI_0m : nI 0 + (-1) = -1 := by decide
theorem MO_beside_spec {W H c w : Nat} (hW : W ≤ 8) (hH : H ≤ 8) (hc : c < 64) (hw : w < 4) {post : Int32 → Prop} (h : post (bes W H w c)) : MO_beside (nI W) (nI H) (nI c) (nI w) post := by
  have e1 : nI c - nI c / (8 : Int32) * (8 : Int32) = nI (c % 8) := pk_rem (d := 8) (by omega) (by decide) (by decide)
  have e2 : nI c / (8 : Int32) = nI (c / 8) := pk_div (d := 8) (by omega) (by decide) (by decide)
  have z : ∀ k, nI k + (0 : Int32) = nI k := fun k => by rw [show (0 : Int32) = nI 0 from rfl, nI_add, Nat.add_zero]
  unfold MO_beside
  rw [e1]
  unfold bes nb at h
  rcases (show w = 0 ∨ w = 1 ∨ w = 2 ∨ w = 3 by omega) with rfl | rfl | rfl | rfl
  · rw [if_pos (by decide)]
    intro v e3
    rw [if_neg (by decide), if_neg (by decide), e2, e3, nI_1]
    refine bes47 (b := c / 8) hW hH (by omega) (by omega) (z _) ?_
    rw [if_pos rfl] at h
    by_cases h7 : c % 8 = 7
    · rw [if_pos h7] at h; rw [if_neg (by omega)]; exact h
    · rw [if_neg h7] at h
      have q : (c + 1) % 8 = c % 8 + 1 := by omega
      have q2 : (c + 1) / 8 = c / 8 := by omega
      dsimp only at h
      rw [q, q2, show c + 1 = 8 * (c / 8) + (c % 8 + 1) by omega] at h
      exact h
  · rw [if_neg (by decide), if_neg (by decide)]
    intro v e3
    rw [if_pos (by decide), e2, e3, z]
    refine bes47 (b := c / 8 + 1) hW hH (by omega) (by omega) (nI_1 _) ?_
    rw [if_neg (by decide), if_pos rfl] at h
    by_cases h7 : 56 ≤ c
    · rw [if_pos h7] at h; rw [if_neg (by omega)]; exact h
    · rw [if_neg h7] at h
      dsimp only at h
      rw [show (c + 8) % 8 = c % 8 by omega, show (c + 8) / 8 = c / 8 + 1 by omega, show c + 8 = 8 * (c / 8 + 1) + c % 8 by omega] at h
      exact h
  · rw [if_neg (by decide), if_pos (by decide)]
    intro v e3
    rw [if_neg (by decide), if_neg (by decide), e2, e3]
    rw [if_neg (by decide), if_neg (by decide), if_pos rfl] at h
    rcases Nat.eq_zero_or_pos (c % 8) with h0 | h0
    · rw [if_pos h0] at h
      rw [h0, nI_0m]
      exact bes47x h
    · rw [if_neg (by omega)] at h
      rw [sb_m1 (by omega)]
      refine bes47 (b := c / 8) hW hH (by omega) (by omega) (z _) ?_
      dsimp only at h
      rw [show (c - 1) % 8 = c % 8 - 1 by omega, show (c - 1) / 8 = c / 8 by omega, show c - 1 = 8 * (c / 8) + (c % 8 - 1) by omega] at h
      exact h
  · rw [if_neg (by decide), if_neg (by decide)]
    intro v e3
    rw [if_neg (by decide), if_pos (by decide), e2, e3, z]
    rw [if_neg (by decide), if_neg (by decide), if_neg (by decide)] at h
    by_cases h0 : c < 8
    · rw [if_pos h0] at h
      exact bes47y hW (by omega) (by rw [show c / 8 = 0 by omega]; exact nI_0m) h
    · rw [if_neg h0] at h
      refine bes47 (b := c / 8 - 1) hW hH (by omega) (by omega) (sb_m1 (by omega)) ?_
      dsimp only at h
      rw [show (c - 8) % 8 = c % 8 by omega, show (c - 8) / 8 = c / 8 - 1 by omega, show c - 8 = 8 * (c / 8 - 1) + c % 8 by omega] at h
      exact h
/-- a set that lies on the board -/
def onB (W H : Nat) (x : Int64) : Prop := ∀ i, i < 64 → tb x i = true → i % 8 < W ∧ i / 8 < H
theorem has_bes {W H c w : Nat} {x : Int64} (hc : c < 64) (hw : w < 4) (hx : onB W H x) {post : Int32 → Prop} (h : post (b01 ((nb w c).any (fun j => tb x j)))) : MO_has x (bes W H w c) post := by
  unfold bes
  cases e : nb w c with
  | none => rw [e] at h; exact MO_has_neg h
  | some j =>
    rw [e] at h
    have hj := nb_lt w hw c hc j e
    show MO_has x (if j % 8 < W ∧ j / 8 < H then nI j else -1) post
    by_cases q : j % 8 < W ∧ j / 8 < H
    · rw [if_pos q]; exact MO_has_spec hj h
    · rw [if_neg q]
      have : tb x j = false := by
        cases f : tb x j with
        | false => rfl
        | true => exact absurd (hx j hj f) q
      have h : post (b01 (tb x j)) := h
      rw [this] at h
      exact MO_has_neg h
/-! counts and lowest cells -/
theorem MO_countOf_loop {x : Int64} {post : Int32 → Prop} (h : post (nI (cnt x))) : ∀ n c, c ≤ 64 → 64 - c < n → MO_countOf_4 post n x (nI (cntN x c)) (nI c) := by
  intro n
  induction n with
  | zero => intro c _ h2; exact absurd h2 (Nat.not_lt_zero _)
  | succ n ih =>
    intro c hc hn
    unfold MO_countOf_4
    by_cases q : 64 ≤ c
    · rw [show (64 : Int32) = nI 64 from rfl, if_pos (nI_le (a := 64) q (by omega)), show c = 64 by omega]; exact h
    · rw [show (64 : Int32) = nI 64 from rfl, if_neg (nI_ge (a := c) (b := 64) (by omega) (by decide))]
      intro v e
      have e2 : v = nI (cntN x (c + 1)) := by
        rw [e, tb_sar (by omega)]
        show _ = nI (cntN x c + (if tb x c = true then 1 else 0))
        by_cases f : tb x c = true
        · rw [if_pos f, if_pos f, ← nI_1]; rfl
        · rw [if_neg f, if_neg f, Nat.add_zero, show (0 : Int64).toInt32 = nI 0 from rfl, nI_add]; rfl
      rw [e2, nI_1]
      exact ih (c + 1) (by omega) (by omega)
theorem MO_countOf_spec {x : Int64} {post : Int32 → Prop} (h : post (nI (cnt x))) : MO_countOf x post := ⟨65, MO_countOf_loop h 65 0 (by decide) (by decide)⟩
def isLow (x : Int64) (k : Nat) : Prop := k < 64 ∧ tb x k = true ∧ ∀ j, j < k → tb x j = false
theorem low_ex {x : Int64} (h : ¬ x = 0) : ∃ k, isLow x k := by
  obtain ⟨i, hi, e⟩ := tb_ne0 h
  obtain ⟨k, hk, hl⟩ := pk_least (fun k => tb x k = true) ⟨i, e⟩
  exact ⟨k, tb_lt hk, hk, fun j hj => Bool.eq_false_iff.mpr (hl j hj)⟩
theorem isLow.uniq {x : Int64} {a b : Nat} (ha : isLow x a) (hb : isLow x b) : a = b := by
  rcases Nat.lt_trichotomy a b with h | h | h
  · have := hb.2.2 a h; rw [ha.2.1] at this; cases this
  · exact h
  · have := ha.2.2 b h; rw [hb.2.1] at this; cases this
theorem low_bit {k : Nat} (hk : k < 64) : isLow (bit k) k := ⟨hk, by rw [tb_bit hk]; simp, fun j hj => by rw [tb_bit hk]; simp; omega⟩
theorem tb_neg (x : Int64) (i : Nat) : tb (-x) i = (tb x i ^^ (decide (i < 64) && decide (∃ j, j < i ∧ tb x j = true))) := by
  unfold tb
  rw [Int64.toBitVec_neg, BitVec.getLsbD_neg]
theorem low_and {x : Int64} {k : Nat} (h : isLow x k) : x &&& (-x) = bit k := tb_ext fun i hi => by
  rw [tb_and, tb_neg, tb_bit h.1]
  by_cases e : i = k
  · subst e
    have : ¬ ∃ j, j < i ∧ tb x j = true := fun ⟨j, hj, q⟩ => by rw [h.2.2 j hj] at q; cases q
    rw [h.2.1]
    simp [this]
  · by_cases q : i < k
    · rw [h.2.2 i q]; simp [e]
    · have : ∃ j, j < i ∧ tb x j = true := ⟨k, by omega, h.2.1⟩
      cases f : tb x i <;> simp [e, this, hi]
theorem bit_lN {k : Nat} (hk : k < 64) : bit k = lN (2 ^ k) := tb_ext fun i hi => by
  have hlt : 2 ^ k < 2 ^ 64 := Nat.pow_lt_pow_right (by decide) hk
  rw [tb_bit hk, tb_nat hlt, Nat.testBit_two_pow]
  by_cases e : i = k
  · subst e; simp
  · simp [e]; exact fun h => e h.symm
theorem cnt_below {k : Nat} (hk : k ≤ 64) {x : Int64} (h : ∀ i, i < 64 → tb x i = decide (i < k)) : cnt x = k := by
  have : ∀ m, m ≤ 64 → cntN x m = if m ≤ k then m else k := by
    intro m
    induction m with
    | zero => intro _; simp [cntN]
    | succ m ih =>
      intro hm
      unfold cntN
      rw [ih (by omega), h m (by omega)]
      by_cases q : m < k
      · simp [q, show m ≤ k by omega, show m + 1 ≤ k by omega]
      · have : ¬ m + 1 ≤ k := by omega
        simp [q, this]; omega
  have h2 := this 64 (Nat.le_refl _)
  unfold cnt
  rw [h2]
  split <;> omega
theorem PB_spotOf_spec {x : Int64} {k : Nat} (hx : isLow x k) {post : Int32 → Prop} (h : post (nI k)) : PB_spotOf x post := by
  unfold PB_spotOf
  have hlt : 2 ^ k < 2 ^ 64 := Nat.pow_lt_pow_right (by decide) hx.1
  have hp : 0 < 2 ^ k := Nat.two_pow_pos k
  have e : (x &&& (-x)) - (1 : Int64) = lN (2 ^ k - 1) := by
    rw [low_and hx, bit_lN hx.1, show (1 : Int64) = lN 1 from rfl, lN_sub hp]
  rw [e]
  refine JL_bitCount_spec ?_
  rw [cnt_below (k := k) (by have := hx.1; omega) (fun i hi => by rw [tb_nat (by omega), Nat.testBit_two_pow_sub_one])]
  have := hx.1
  rw [show (63 : Int32) = nI 63 from rfl, pk_andN (by omega) 6 (by decide), Nat.mod_eq_of_lt (by omega)]
  exact h
theorem PB_spotOf_zero {post : Int32 → Prop} (h : post 0) : PB_spotOf 0 post := by
  unfold PB_spotOf
  refine JL_bitCount_spec ?_
  rw [show cnt (((0 : Int64) &&& (-0)) - 1) = 64 by decide +kernel]
  exact h
theorem MO_leastOf_loop {x : Int64} {k : Nat} (hx : isLow x k) {post : Int32 → Prop} (h : post (nI k)) : ∀ n c, c ≤ k → k - c < n → MO_leastOf_2 post n x (nI c) := by
  intro n
  induction n with
  | zero => intro c _ h2; exact absurd h2 (Nat.not_lt_zero _)
  | succ n ih =>
    intro c hc hn
    have := hx.1
    unfold MO_leastOf_2
    rw [tb_sar (by omega)]
    by_cases q : c = k
    · subst q
      rw [if_pos hx.2.1, if_neg (by decide)]
      exact h
    · rw [hx.2.2 c (by omega), if_pos (by decide), nI_1]
      exact ih (c + 1) (by omega) (by omega)
theorem MO_leastOf_spec {x : Int64} {k : Nat} (hx : isLow x k) {post : Int32 → Prop} (h : post (nI k)) : MO_leastOf x post := ⟨k + 1, MO_leastOf_loop hx h (k + 1) 0 (Nat.zero_le _) (by omega)⟩
