/-! the way back from a state, and the whole search -/
def anc (SP : Nat → Nat) (i : Nat) : Nat → Nat
  | 0 => i
  | j + 1 => SP (anc SP i j)
def isLen (SP : Nat → Nat) (i ln : Nat) : Prop := anc SP i ln = 0 ∧ ∀ j, j < ln → 0 < anc SP i j
theorem anc_bd {SP : Nat → Nat} {m i : Nat} (h : ∀ i, i < m → 0 < i → SP i < i) (hi : i < m) : ∀ j, (∀ k, k < j → 0 < anc SP i k) → anc SP i j + j ≤ i := by
  intro j
  induction j with
  | zero => intro _; exact Nat.le_refl _
  | succ j ih =>
    intro hk
    have := ih (fun k hk' => hk k (by omega))
    have h2 := h (anc SP i j) (by omega) (hk j (by omega))
    show SP (anc SP i j) + (j + 1) ≤ i
    omega
theorem len_ex {SP : Nat → Nat} {m i : Nat} (h : ∀ i, i < m → 0 < i → SP i < i) (hi : i < m) : ∃ ln, isLen SP i ln := by
  have key : ∀ n j, i < n + j → (∀ k, k < j → 0 < anc SP i k) → ∃ ln, isLen SP i ln := by
    intro n
    induction n with
    | zero => intro j hj hk; have := anc_bd h hi j hk; omega
    | succ n ih =>
      intro j hj hk
      by_cases q : anc SP i j = 0
      · exact ⟨j, q, hk⟩
      · refine ih (j + 1) (by omega) (fun k hk' => ?_)
        by_cases e : k = j
        · rw [e]; omega
        · exact hk k (by omega)
  exact key (i + 1) 0 (by omega) (fun k hk => absurd hk (Nat.not_lt_zero _))
theorem le0 {k : Nat} (h : k < 2 ^ 31) : nI k ≤ (0 : Int32) ↔ k = 0 := by
  have := nI_leI (a := k) (b := 0) h (by decide)
  rw [show (0 : Int32) = nI 0 from rfl, this]
  omega
theorem nI_prd {k : Nat} (h : 0 < k) : nI k + (-1 : Int32) = nI (k - 1) := by
  obtain ⟨j, rfl⟩ : ∃ j, k = j + 1 := ⟨k - 1, by omega⟩
  rw [← nI_1, Int32.add_assoc, show (1 : Int32) + -1 = 0 from by decide, Int32.add_zero]
  rfl
theorem pushesTo_spec {SP : Nat → Nat} {m i ln nn : Nat} {sp : Nat → Int32} {post : Int32 → Prop} (h : ∀ i, i < m → 0 < i → SP i < i) (hi : i < m) (hm : m ≤ nn) (hnn : nn ≤ 10000) (hs : slR SP m sp) (hl : isLen SP i ln) (hp : post (nI ln)) : SE_pushesTo (nI m) nn sp (nI i) post := by
  have hb : ∀ j, j ≤ ln → anc SP i j + j ≤ i := fun j hj => anc_bd h hi j (fun k hk => hl.2 k (by omega))
  have key : ∀ n j, ln < j + n → j ≤ ln → SE_pushesTo_7 (nI m) nn sp post n (nI j) (nI (anc SP i j)) (nI j) := by
    intro n
    induction n with
    | zero => intro j h1 h2; omega
    | succ n ih =>
      intro j h1 h2
      have hbj := hb j h2
      unfold SE_pushesTo_7
      rw [if_neg (nI_ge (by omega) (by omega))]
      by_cases q : anc SP i j = 0
      · rw [if_pos ((le0 (by omega)).mpr q)]
        have : j = ln := by
          apply Classical.byContradiction
          intro e
          have := hl.2 j (by omega)
          omega
        rw [this]; exact hp
      · rw [if_neg (fun e => q ((le0 (by omega)).mp e))]
        have : ¬ j = ln := fun e => q (by rw [e]; exact hl.1)
        refine ⟨vp_inN (by omega) (by omega), fun v3 e3 => ?_⟩
        rw [nI_clamp (by omega), hs _ (by omega)] at e3
        rw [e3, nI_1]
        exact ih (j + 1) (by omega) (by omega)
  exact ⟨ln + 1, key (ln + 1) 0 (by omega) (Nat.zero_le _)⟩
theorem pushesTo_neg {m nn : Nat} {sp : Nat → Int32} {post : Int32 → Prop} (hp : post 0) : SE_pushesTo (nI m) nn sp (-1) post := by
  refine ⟨1, ?_⟩
  unfold SE_pushesTo_7
  split
  · exact hp
  · rw [if_pos (by decide)]; exact hp
def pathOK (ln : Nat) (pth : Nat → Int32) (nn : Nat) (fd : Int32) (sp su : Nat → Int32) : Prop := ∃ a : Nat → Nat, (∀ j, j < ln → a j < nn ∧ su (a j) = pth (ln - 1 - j)) ∧ (∀ j, j + 1 < ln → sp (a j) = nI (a (j + 1))) ∧ (0 < ln → fd = nI (a 0))
theorem pathOK_0 {pth : Nat → Int32} {nn : Nat} {fd : Int32} {sp su : Nat → Int32} : pathOK 0 pth nn fd sp su := ⟨fun _ => 0, fun _ h => absurd h (Nat.not_lt_zero _), fun _ h => absurd h (Nat.not_lt_zero _), fun h => absurd h (Nat.not_lt_zero _)⟩
def pushA (ln : Nat) (pth : Nat → Int32) (v : Int32) : Int32 := if v < 0 then -1 else if v < nI ln then pth v.toNatClampNeg else -1
theorem PB_push_spec {ln nn : Nat} {pth : Nat → Int32} {fd v : Int32} {sp su : Nat → Int32} {post : Int32 → Prop} (hl : ln ≤ 10000) (hnn : nn ≤ 10000) (h : pathOK ln pth nn fd sp su) (hp : post (pushA ln pth v)) : PB_push (nI ln) fd nn sp nn su v post := by
  unfold PB_push
  unfold pushA at hp
  by_cases h1 : v < 0
  · rw [if_pos h1] at hp ⊢; exact hp
  · rw [if_neg h1] at hp ⊢
    by_cases h2 : v < nI ln
    · rw [if_pos h2] at hp ⊢
      obtain ⟨i, hi, ei⟩ := nI_of h1
      subst ei
      rw [nI_ltI hi (by omega)] at h2
      rw [nI_clamp hi] at hp
      obtain ⟨a, a1, a2, a3⟩ := h
      have key : ∀ n j, ln ≤ j + n + i → j + i < ln → SE_pushAt_12 (nI ln) fd nn sp nn su post n (nI i) (nI (a j)) (nI (ln - 1 - j)) := by
        intro n
        induction n with
        | zero => intro j g1 g2; omega
        | succ n ih =>
          intro j g1 g2
          have aj := a1 j (by omega)
          unfold SE_pushAt_12
          by_cases q : ln - 1 - j ≤ i
          · rw [if_pos (nI_le q (by omega))]
            refine ⟨vp_inN aj.1 (by omega), ?_⟩
            rw [nI_clamp (by omega), aj.2, show ln - 1 - j = i by omega]
            exact hp
          · rw [if_neg (nI_ge (by omega) (by omega))]
            refine ⟨vp_inN aj.1 (by omega), fun v2 e2 => ?_⟩
            rw [nI_clamp (by omega), a2 j (by omega)] at e2
            rw [e2, nI_prd (by omega), show ln - 1 - j - 1 = ln - 1 - (j + 1) by omega]
            exact ih (j + 1) (by omega) (by omega)
      intro v3 e3
      rw [e3, show (1 : Int32) = nI 1 from rfl, pk_sub (by omega)]
      have k0 := key (ln + 1) 0 (by omega) (by omega)
      rw [← a3 (by omega)] at k0
      exact ⟨ln + 1, k0⟩
    · rw [if_neg h2] at hp ⊢; exact hp
theorem MO_push_spec {ln : Nat} {pth : Nat → Int32} {v th : Int32} {xp : Nat → Int32} {post : Int32 → Int32 → Prop} (hl : ln ≤ 10000) (h : ∀ i, i < ln → xp i = pth i) (hp : post (pushA ln pth v) 0) : MO_push (nI ln) xp th v post := by
  unfold MO_push
  unfold pushA at hp
  by_cases h1 : v < 0
  · rw [if_pos h1] at hp ⊢; exact hp
  · rw [if_neg h1] at hp ⊢
    by_cases h2 : v < nI ln
    · rw [if_pos h2] at hp ⊢
      obtain ⟨i, hi, ei⟩ := nI_of h1
      subst ei
      rw [nI_ltI hi (by omega)] at h2
      rw [nI_clamp hi] at hp ⊢
      refine ⟨vp_inN (by omega) (by decide), ?_⟩
      rw [h i h2]; exact hp
    · rw [if_neg h2] at hp ⊢; exact hp
