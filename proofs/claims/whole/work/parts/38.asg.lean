/-! ways to give each goal of a set a box of its own, and what they cost -/
def Asg (D : Nat → Nat → Int32) (n : Nat) : Nat → Nat → Nat → Prop
  | 0, s, t => s = 0 ∧ t = 0
  | b + 1, s, t => Asg D n b s t ∨ ∃ k, k < n ∧ s.testBit k = true ∧ ∃ a t', D k b = nI a ∧ a ≤ 63 ∧ t = t' + a ∧ Asg D n b (s ^^^ 2 ^ k) t'
theorem Asg_le {D : Nat → Nat → Int32} {n : Nat} : ∀ b s t, Asg D n b s t → t ≤ 63 * b := by
  intro b
  induction b with
  | zero => rintro s t ⟨-, h⟩; omega
  | succ b ih =>
    rintro s t (h | ⟨k, -, -, a, t', -, h1, h2, h3⟩)
    · have := ih s t h; omega
    · have := ih _ t' h3; omega
def isMin (Q : Nat → Prop) (v : Int32) : Prop := (v = -1 ∧ ∀ t, ¬ Q t) ∨ ∃ t, v = nI t ∧ Q t ∧ ∀ t', Q t' → t ≤ t'
theorem isMin.uniq {Q : Nat → Prop} {v w : Int32} (h : isMin Q v) (g : isMin Q w) : v = w := by
  rcases h with ⟨h1, h2⟩ | ⟨t, h1, h2, h3⟩
  · rcases g with ⟨g1, -⟩ | ⟨t, -, g2, -⟩
    · rw [h1, g1]
    · exact absurd g2 (h2 t)
  · rcases g with ⟨-, g2⟩ | ⟨t', g1, g2, g3⟩
    · exact absurd h2 (g2 t)
    · have a := h3 t' g2
      have b := g3 t h2
      rw [h1, g1, show t = t' by omega]
theorem isMin.cg {Q Q' : Nat → Prop} {v : Int32} (h : isMin Q v) (e : ∀ t, Q t ↔ Q' t) : isMin Q' v := by
  rcases h with ⟨h1, h2⟩ | ⟨t, h1, h2, h3⟩
  · exact Or.inl ⟨h1, fun t q => h2 t ((e t).mpr q)⟩
  · exact Or.inr ⟨t, h1, (e t).mp h2, fun t' q => h3 t' ((e t').mpr q)⟩
/-! no way is cheaper than the levels say -/
def sU (U : Nat → Int) (s : Nat) : Nat → Int
  | 0 => 0
  | k + 1 => sU U s k + if s.testBit k = true then U (k + 1) else 0
def sV (V : Nat → Int) : Nat → Int
  | 0 => 0
  | j + 1 => sV V j + V (j + 1)
theorem tbx (s k j : Nat) : (s ^^^ 2 ^ k).testBit j = (s.testBit j ^^ decide (k = j)) := by rw [Nat.testBit_xor, Nat.testBit_two_pow]
theorem sU_flip {U : Nat → Int} {s k : Nat} (h : s.testBit k = true) : ∀ n, sU U s n = sU U (s ^^^ 2 ^ k) n + if k < n then U (k + 1) else 0 := by
  intro n
  induction n with
  | zero => rfl
  | succ n ih =>
    show sU U s n + (if s.testBit n = true then U (n + 1) else 0) = sU U (s ^^^ 2 ^ k) n + (if (s ^^^ 2 ^ k).testBit n = true then U (n + 1) else 0) + _
    rw [ih, tbx]
    by_cases e : k = n
    · subst e
      rw [h, if_neg (show ¬ k < k by omega), if_pos rfl, if_pos (show k < k + 1 by omega)]
      simp
    · by_cases q : k < n
      · rw [if_pos q, if_pos (show k < n + 1 by omega), decide_eq_false e, Bool.xor_false]; omega
      · rw [if_neg q, if_neg (show ¬ k < n + 1 by omega), decide_eq_false e, Bool.xor_false]; omega
theorem sU_zero (U : Nat → Int) : ∀ n, sU U 0 n = 0 := by
  intro n
  induction n with
  | zero => rfl
  | succ n ih => show sU U 0 n + (if Nat.testBit 0 n = true then U (n + 1) else 0) = 0; rw [ih, Nat.zero_testBit]; rfl
def cst (v : Int32) : Int := if v < 0 then 100000 else v.toInt
theorem cst_n {a : Nat} (h : a ≤ 63) : cst (nI a) = a := by
  unfold cst
  rw [if_neg (nI_pos (by omega)), nI_toInt (by omega)]
def dOK (D : Nat → Nat → Int32) : Prop := ∀ k b, D k b = -1 ∨ ∃ a, a ≤ 63 ∧ D k b = nI a
def cD (D : Nat → Nat → Int32) : Nat → Nat → Int := fun i j => cst (D (i - 1) (j - 1))
theorem Asg_dual {D : Nat → Nat → Int32} {n m : Nat} {U V : Nat → Int} {P : Nat → Nat} (hF : hFeas (cD D) n m U V P) : ∀ b s t, b ≤ m → Asg D n b s t → sU U s n + sV V b ≤ (t : Int) := by
  intro b
  induction b with
  | zero => rintro s t - ⟨h1, h2⟩; rw [h1, h2, sU_zero]; exact Int.le_refl _
  | succ b ih =>
    rintro s t hb (h | ⟨k, hk, h1, a, t', h2, h3, h4, h5⟩)
    · have a1 := ih s t (by omega) h
      have a2 := hF.2.2.1 (b + 1)
      show sU U s n + (sV V b + V (b + 1)) ≤ _
      omega
    · have a1 := ih _ t' (by omega) h5
      have a2 := hF.1 (k + 1) (b + 1) (by omega) (by omega) (by omega) hb
      have a3 := sU_flip (U := U) h1 n
      rw [if_pos hk] at a3
      have a4 : cD D (k + 1) (b + 1) = a := by show cst (D k b) = a; rw [h2, cst_n h3]
      show sU U s n + (sV V b + V (b + 1)) ≤ _
      rw [a3]
      omega
/-- the goals that the first boxes are given to -/
def mSet (P : Nat → Nat) : Nat → Nat
  | 0 => 0
  | j + 1 => if P (j + 1) = 0 then mSet P j else mSet P j ^^^ 2 ^ (P (j + 1) - 1)
theorem mSet_bit {n m : Nat} {P : Nat → Nat} (hM : pMat n m P) : ∀ b, b ≤ m → ∀ k, ((mSet P b).testBit k = true ↔ ∃ j, j < b ∧ P (j + 1) = k + 1) := by
  intro b
  induction b with
  | zero => intro _ k; show Nat.testBit 0 k = true ↔ _; rw [Nat.zero_testBit]; exact ⟨fun h => Bool.noConfusion h, fun ⟨j, h, _⟩ => absurd h (Nat.not_lt_zero _)⟩
  | succ b ih =>
    intro hb k
    show (if P (b + 1) = 0 then mSet P b else mSet P b ^^^ 2 ^ (P (b + 1) - 1)).testBit k = true ↔ _
    by_cases e : P (b + 1) = 0
    · rw [if_pos e, ih (by omega)]
      constructor
      · rintro ⟨j, h1, h2⟩; exact ⟨j, by omega, h2⟩
      · rintro ⟨j, h1, h2⟩
        by_cases ej : j = b
        · rw [ej, e] at h2; omega
        · exact ⟨j, by omega, h2⟩
    · rw [if_neg e, tbx]
      have key : P (b + 1) - 1 = k → (mSet P b).testBit k = false := fun h => by
        cases q : (mSet P b).testBit k with
        | false => rfl
        | true =>
          obtain ⟨j, h1, h2⟩ := (ih (by omega) k).mp q
          have := hM.2.1 (j + 1) (b + 1) (by omega) (by omega) (by omega) hb (by omega) (by omega)
          omega
      by_cases h : P (b + 1) - 1 = k
      · rw [key h, decide_eq_true h]
        exact ⟨fun _ => ⟨b, by omega, by omega⟩, fun _ => rfl⟩
      · rw [decide_eq_false h, Bool.xor_false, ih (by omega)]
        constructor
        · rintro ⟨j, h1, h2⟩; exact ⟨j, by omega, h2⟩
        · rintro ⟨j, h1, h2⟩
          by_cases ej : j = b
          · subst ej; omega
          · exact ⟨j, by omega, h2⟩
theorem mSet_full {n m : Nat} {P : Nat → Nat} (hM : pMat n m P) : mSet P m = 2 ^ n - 1 := by
  apply Nat.eq_of_testBit_eq
  intro k
  rw [Nat.testBit_two_pow_sub_one]
  by_cases h : k < n
  · rw [decide_eq_true h]
    obtain ⟨j, h1, h2, h3⟩ := hM.2.2 (k + 1) (by omega) (by omega)
    exact (mSet_bit hM m (Nat.le_refl _) k).mpr ⟨j - 1, by omega, by rw [show j - 1 + 1 = j by omega]; exact h3⟩
  · rw [decide_eq_false h]
    cases q : (mSet P m).testBit k with
    | false => rfl
    | true =>
      obtain ⟨j, h1, h2⟩ := (mSet_bit hM m (Nat.le_refl _) k).mp q
      have := hM.1 (j + 1) (by omega) (by omega)
      omega
theorem sC_nn {C : Nat → Nat → Int} {n m : Nat} {P : Nat → Nat} (hM : pMat n m P) (hC : ∀ i j, 1 ≤ i → i ≤ n → 1 ≤ j → j ≤ m → 0 ≤ C i j) : ∀ b, b ≤ m → 0 ≤ sC C P b ∧ ∀ j, j < b → ¬ P (j + 1) = 0 → C (P (j + 1)) (j + 1) ≤ sC C P b := by
  intro b
  induction b with
  | zero => intro _; exact ⟨Int.le_refl _, fun j h => absurd h (Nat.not_lt_zero _)⟩
  | succ b ih =>
    intro hb
    obtain ⟨i1, i2⟩ := ih (by omega)
    have hs : sC C P (b + 1) = sC C P b + if P (b + 1) = 0 then 0 else C (P (b + 1)) (b + 1) := rfl
    have hc : 0 ≤ (if P (b + 1) = 0 then 0 else C (P (b + 1)) (b + 1)) := by
      by_cases e : P (b + 1) = 0
      · rw [if_pos e]; exact Int.le_refl _
      · rw [if_neg e]; exact hC _ _ (by omega) (hM.1 (b + 1) (by omega) hb) (by omega) hb
    refine ⟨by omega, fun j hj hP => ?_⟩
    by_cases e : j = b
    · subst e
      rw [if_neg hP] at hs
      omega
    · have := i2 j (by omega) hP
      omega
theorem Asg_of {D : Nat → Nat → Int32} {n m : Nat} {P : Nat → Nat} (hD : dOK D) (hM : pMat n m P) (h : ∀ j, j < m → ¬ P (j + 1) = 0 → cD D (P (j + 1)) (j + 1) < 100000) : ∀ b, b ≤ m → ∃ t, Asg D n b (mSet P b) t ∧ (t : Int) = sC (cD D) P b := by
  intro b
  induction b with
  | zero => intro _; exact ⟨0, ⟨rfl, rfl⟩, rfl⟩
  | succ b ih =>
    intro hb
    obtain ⟨t, h1, h2⟩ := ih (by omega)
    have hs : sC (cD D) P (b + 1) = sC (cD D) P b + if P (b + 1) = 0 then 0 else cD D (P (b + 1)) (b + 1) := rfl
    have hm : mSet P (b + 1) = if P (b + 1) = 0 then mSet P b else mSet P b ^^^ 2 ^ (P (b + 1) - 1) := rfl
    by_cases e : P (b + 1) = 0
    · rw [if_pos e] at hs hm
      rw [hm]
      exact ⟨t, Or.inl h1, by omega⟩
    · rw [if_neg e] at hs hm
      have hp := hM.1 (b + 1) (by omega) hb
      have hc := h b (by omega) e
      have hd : cD D (P (b + 1)) (b + 1) = cst (D (P (b + 1) - 1) b) := rfl
      rcases hD (P (b + 1) - 1) b with q | ⟨a, q1, q2⟩
      · rw [hd, q] at hc
        exact absurd hc (by decide)
      · refine ⟨t + a, ?_, by rw [hs, hd, q2, cst_n q1]; omega⟩
        rw [hm]
        refine Or.inr ⟨P (b + 1) - 1, by omega, ?_, a, t, q2, q1, rfl, ?_⟩
        · have := (mSet_bit hM (b + 1) hb (P (b + 1) - 1)).mpr ⟨b, by omega, by omega⟩
          rw [hm] at this
          exact this
        · rw [Nat.xor_assoc, Nat.xor_self, Nat.xor_zero]
          exact h1
theorem sC_dual {C : Nat → Nat → Int} {n m : Nat} {U V : Nat → Int} {P : Nat → Nat} (hF : hFeas C n m U V P) (hM : pMat n m P) : ∀ b, b ≤ m → sC C P b = sU U (mSet P b) n + sV V b := by
  intro b
  induction b with
  | zero => intro _; show (0 : Int) = sU U 0 n + 0; rw [sU_zero]; rfl
  | succ b ih =>
    intro hb
    have i := ih (by omega)
    have hs : sC C P (b + 1) = sC C P b + if P (b + 1) = 0 then 0 else C (P (b + 1)) (b + 1) := rfl
    have hm : mSet P (b + 1) = if P (b + 1) = 0 then mSet P b else mSet P b ^^^ 2 ^ (P (b + 1) - 1) := rfl
    have hv : sV V (b + 1) = sV V b + V (b + 1) := rfl
    by_cases e : P (b + 1) = 0
    · have := hF.2.2.2.1 (b + 1) (by omega) hb e
      rw [if_pos e] at hs hm
      rw [hm, hs, hv]; omega
    · have hp := hM.1 (b + 1) (by omega) hb
      have t := hF.2.2.2.2 (b + 1) (by omega) hb e
      have bit := (mSet_bit hM (b + 1) hb (P (b + 1) - 1)).mpr ⟨b, by omega, by omega⟩
      have fl := sU_flip (U := U) bit n
      rw [if_neg e] at hs hm
      rw [if_pos (by omega), show P (b + 1) - 1 + 1 = P (b + 1) by omega] at fl
      rw [hm, Nat.xor_assoc, Nat.xor_self, Nat.xor_zero] at fl
      rw [hm, hs, hv]
      omega
/-- what the program answers is the least -/
theorem hung_min {D : Nat → Nat → Int32} {n m : Nat} {U V : Nat → Int} {P : Nat → Nat} (hm : m ≤ 12) (hD : dOK D) (hF : hFeas (cD D) n m U V P) (hM : pMat n m P) : isMin (Asg D n m (2 ^ n - 1)) (if sC (cD D) P m < 100000 then iI (sC (cD D) P m) else -1) := by
  have hnn : ∀ i j, 1 ≤ i → i ≤ n → 1 ≤ j → j ≤ m → 0 ≤ cD D i j := fun i j _ _ _ _ => by
    show 0 ≤ cst (D (i - 1) (j - 1))
    rcases hD (i - 1) (j - 1) with q | ⟨a, q1, q2⟩
    · rw [q]; decide
    · rw [q2, cst_n q1]; omega
  have du := sC_dual hF hM m (Nat.le_refl _)
  rw [mSet_full hM] at du
  by_cases h : sC (cD D) P m < 100000
  · rw [if_pos h]
    obtain ⟨t, h1, h2⟩ := Asg_of hD hM (fun j hj hP => Int.lt_of_le_of_lt ((sC_nn hM hnn m (Nat.le_refl _)).2 j hj hP) h) m (Nat.le_refl _)
    rw [mSet_full hM] at h1
    refine Or.inr ⟨t, by rw [← h2]; rfl, h1, fun t' q => ?_⟩
    have := Asg_dual hF m _ t' (Nat.le_refl _) q
    omega
  · rw [if_neg h]
    refine Or.inl ⟨rfl, fun t q => ?_⟩
    have a := Asg_dual hF m _ t (Nat.le_refl _) q
    have b := Asg_le m _ t q
    omega
