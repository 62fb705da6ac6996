/-! sets of cells as longs: bits -/
def tb (x : Int64) (i : Nat) : Bool := x.toBitVec.getLsbD i
theorem tb_ext {x y : Int64} (h : ∀ i, i < 64 → tb x i = tb y i) : x = y := Int64.toBitVec_inj.mp (BitVec.eq_of_getLsbD_eq h)
theorem tb_big {x : Int64} {i : Nat} (h : 64 ≤ i) : tb x i = false := BitVec.getLsbD_of_ge _ _ h
theorem tb_lt {x : Int64} {i : Nat} (h : tb x i = true) : i < 64 := by
  rcases Nat.lt_or_ge i 64 with q | q
  · exact q
  · rw [tb_big q] at h; cases h
theorem tb_and (x y : Int64) (i : Nat) : tb (x &&& y) i = (tb x i && tb y i) := by unfold tb; rw [Int64.toBitVec_and, BitVec.getLsbD_and]
theorem tb_or (x y : Int64) (i : Nat) : tb (x ||| y) i = (tb x i || tb y i) := by unfold tb; rw [Int64.toBitVec_or, BitVec.getLsbD_or]
theorem tb_xor (x y : Int64) (i : Nat) : tb (x ^^^ y) i = (tb x i ^^ tb y i) := by unfold tb; rw [Int64.toBitVec_xor, BitVec.getLsbD_xor]
theorem tb_zero (i : Nat) : tb 0 i = false := by unfold tb; show (0#64).getLsbD i = false; simp
theorem tb_m1 : ∀ i, i < 64 → tb (-1) i = true := by decide +kernel
theorem tb_not {x : Int64} {i : Nat} (h : i < 64) : tb (x ^^^ (-1)) i = !tb x i := by rw [tb_xor, tb_m1 i h]; simp
theorem tb_diff (x y : Int64) (i : Nat) : tb (x &&& (y ^^^ (-1))) i = (tb x i && !tb y i) := by
  rcases Nat.lt_or_ge i 64 with q | q
  · rw [tb_and, tb_not q]
  · rw [tb_big q, tb_big q]; rfl
theorem tb_ne0 {x : Int64} (h : ¬ x = 0) : ∃ i, i < 64 ∧ tb x i = true := by
  apply Classical.byContradiction
  intro q
  exact h (tb_ext fun i hi => by
    rw [tb_zero]
    cases e : tb x i with
    | false => rfl
    | true => exact absurd ⟨i, hi, e⟩ q)
theorem tb_eq0 {x : Int64} (h : ∀ i, i < 64 → tb x i = false) : x = 0 := tb_ext fun i hi => by rw [tb_zero, h i hi]
/-- shift counts -/
theorem tb_cl : ∀ k, k < 64 → ((nI k).toInt64 &&& 63).toBitVec = BitVec.ofNat 64 k := by decide +kernel
theorem tb_cu : ∀ k, k < 64 → ((nI k).toInt64.toUInt64 &&& Int64.toUInt64 63).toNat = k := by decide +kernel
theorem tb_sm : ∀ k, k < 64 → ((BitVec.ofNat 64 k).smod 64).toNat = k := by decide +kernel
theorem tb_shl {k : Nat} (hk : k < 64) (x : Int64) (i : Nat) : tb (x <<< ((nI k).toInt64 &&& 63)) i = (decide (k ≤ i) && (decide (i < 64) && tb x (i - k))) := by
  unfold tb
  rw [Int64.toBitVec_shiftLeft, tb_cl k hk, BitVec.shiftLeft_eq', tb_sm k hk, BitVec.getLsbD_shiftLeft]
  by_cases h1 : i < 64 <;> by_cases h2 : k ≤ i <;> simp [h1, h2] <;> omega
theorem tb_ush {k : Nat} (hk : k < 64) (x : Int64) (i : Nat) : tb ((x.toUInt64 >>> ((nI k).toInt64.toUInt64 &&& Int64.toUInt64 63)).toInt64) i = tb x (k + i) := by
  have e : (x.toUInt64 >>> ((nI k).toInt64.toUInt64 &&& Int64.toUInt64 63)).toInt64.toBitVec = x.toBitVec >>> k := by
    apply BitVec.eq_of_toNat_eq
    show (x.toUInt64 >>> ((nI k).toInt64.toUInt64 &&& Int64.toUInt64 63)).toNat = _
    rw [UInt64.toNat_shiftRight, tb_cu k hk, Nat.mod_eq_of_lt hk, BitVec.toNat_ushiftRight]
    rfl
  unfold tb
  rw [e, BitVec.getLsbD_ushiftRight]
theorem tb_one (i : Nat) : tb 1 i = decide (i = 0) := by
  rcases Nat.lt_or_ge i 64 with q | q
  · exact (show ∀ i, i < 64 → tb 1 i = decide (i = 0) by decide +kernel) i q
  · rw [tb_big q]; symm; simp; omega
/-- one cell -/
def bit (k : Nat) : Int64 := (1 : Int64) <<< ((nI k).toInt64 &&& 63)
theorem tb_bit {k : Nat} (hk : k < 64) (i : Nat) : tb (bit k) i = decide (i = k) := by
  unfold bit
  rw [tb_shl hk, tb_one]
  by_cases h : i = k
  · subst h; simp [hk]
  · by_cases h1 : k ≤ i <;> by_cases h2 : i < 64 <;> simp [h, h1, h2] <;> omega
theorem bit_ne0 {k : Nat} (hk : k < 64) : ¬ bit k = 0 := fun e => by
  have h := tb_bit hk k
  rw [e, tb_zero] at h
  simp at h
theorem tb_a1 (x : Int64) (i : Nat) : tb (x &&& 1) i = (decide (i = 0) && tb x 0) := by
  rw [tb_and, tb_one]
  by_cases h : i = 0
  · subst h; simp
  · simp [h]
/-- (x >>> k) & 1 of a long, arithmetic shift -/
theorem tb_sar {k : Nat} (hk : k < 64) (x : Int64) : ((x >>> ((nI k).toInt64 &&& 63)) &&& 1) = if tb x k = true then 1 else 0 := by
  have e : tb (x >>> ((nI k).toInt64 &&& 63)) 0 = tb x k := by
    unfold tb
    rw [Int64.toBitVec_shiftRight, tb_cl k hk, BitVec.sshiftRight_eq', tb_sm k hk, BitVec.getLsbD_sshiftRight]
    simp [hk]
  apply tb_ext
  intro i hi
  rw [tb_a1, e]
  by_cases h : tb x k = true
  · rw [if_pos h, tb_one, h]; simp
  · rw [if_neg h, tb_zero, Bool.eq_false_iff.mpr h]; simp
theorem tb_lsr {k : Nat} (hk : k < 64) (x : Int64) : ((x.toUInt64 >>> ((nI k).toInt64.toUInt64 &&& Int64.toUInt64 63)).toInt64 &&& 1) = if tb x k = true then 1 else 0 := by
  apply tb_ext
  intro i hi
  rw [tb_a1, tb_ush hk, Nat.add_zero]
  by_cases h : tb x k = true
  · rw [if_pos h, tb_one, h]; simp
  · rw [if_neg h, tb_zero, Bool.eq_false_iff.mpr h]; simp
/-! counting -/
def cntN (x : Int64) : Nat → Nat
  | 0 => 0
  | k + 1 => cntN x k + (if tb x k = true then 1 else 0)
def cnt (x : Int64) : Nat := cntN x 64
theorem cntN_le (x : Int64) : ∀ k, cntN x k ≤ k := by
  intro k
  induction k with
  | zero => exact Nat.le_refl 0
  | succ k ih => unfold cntN; split <;> omega
theorem cnt_le (x : Int64) : cnt x ≤ 64 := cntN_le x 64
theorem cntN_mono {x y : Int64} (h : ∀ i, i < 64 → tb x i = true → tb y i = true) : ∀ k, k ≤ 64 → cntN x k ≤ cntN y k := by
  intro k
  induction k with
  | zero => intro _; exact Nat.le_refl 0
  | succ k ih =>
    intro hk
    have := ih (by omega)
    unfold cntN
    by_cases h1 : tb x k = true
    · rw [if_pos h1, if_pos (h k (by omega) h1)]; omega
    · rw [if_neg h1]; split <;> omega
theorem cntN_lt {x y : Int64} (h : ∀ i, i < 64 → tb x i = true → tb y i = true) {j : Nat} (hx : tb x j = false) (hy : tb y j = true) : ∀ k, k ≤ 64 → j < k → cntN x k < cntN y k := by
  intro k
  induction k with
  | zero => intro _ h1; exact absurd h1 (Nat.not_lt_zero _)
  | succ k ih =>
    intro hk hj
    unfold cntN
    by_cases e : j = k
    · subst e
      have := cntN_mono h j (by omega)
      rw [if_neg (by rw [hx]; decide), if_pos hy]; omega
    · have := ih (by omega) (by omega)
      by_cases h1 : tb x k = true
      · rw [if_pos h1, if_pos (h k (by omega) h1)]; omega
      · rw [if_neg h1]; split <;> omega
def sub (x y : Int64) : Prop := ∀ i, i < 64 → tb x i = true → tb y i = true
theorem sub.rf (x : Int64) : sub x x := fun _ _ h => h
theorem sub.tr {x y z : Int64} (h : sub x y) (g : sub y z) : sub x z := fun i hi q => g i hi (h i hi q)
theorem sub.eq {x y : Int64} (h : sub x y) (g : sub y x) : x = y := tb_ext fun i hi => by
  cases e : tb x i with
  | true => rw [h i hi e]
  | false => cases f : tb y i with
    | false => rfl
    | true => rw [g i hi f] at e; cases e
theorem sub.or {x y : Int64} : sub x (x ||| y) := fun i _ q => by rw [tb_or, q]; rfl
theorem sub.lt {x y : Int64} (h : sub x y) (hne : ¬ y = x) : cnt x < cnt y := by
  have : ∃ j, j < 64 ∧ tb x j = false ∧ tb y j = true := by
    apply Classical.byContradiction
    intro q
    refine hne (sub.eq (fun i hi e => ?_) h)
    cases f : tb x i with
    | true => rfl
    | false => exact absurd ⟨i, hi, f, e⟩ q
  obtain ⟨j, hj, h1, h2⟩ := this
  exact cntN_lt h h1 h2 64 (Nat.le_refl _) hj
theorem cnt_pos {x : Int64} (h : ¬ x = 0) : 0 < cnt x := by
  obtain ⟨i, hi, e⟩ := tb_ne0 h
  have h1 := sub.lt (x := 0) (y := x) (fun i _ q => by rw [tb_zero] at q; cases q) h
  omega
theorem cnt_zero : cnt 0 = 0 := by decide +kernel
/-! literals and comparisons -/
theorem lit (n : Nat) : (OfNat.ofNat n : Int32) = nI n := rfl
theorem kL {k c : Nat} (h : k ≤ c) (hc : c < 2 ^ 31) : (OfNat.ofNat k : Int32) ≤ nI c := nI_le h hc
theorem kG {k c : Nat} (h : c < k) (hk : k < 2 ^ 31) : ¬ (OfNat.ofNat k : Int32) ≤ nI c := nI_ge h hk
