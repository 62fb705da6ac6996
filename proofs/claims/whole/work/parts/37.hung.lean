/-! ints -/
def iI (z : Int) : Int32 := Int32.ofInt z
theorem iI_n (n : Nat) : nI n = iI (n : Int) := rfl
theorem iI_add (a b : Int) : iI a + iI b = iI (a + b) := (Int32.ofInt_add a b).symm
theorem iI_sub (a b : Int) : iI a - iI b = iI (a - b) := (Int32.ofInt_sub a b).symm
def sm (a : Int) : Prop := -2147483648 ≤ a ∧ a < 2147483648
theorem iI_toInt {a : Int} (h : sm a) : (iI a).toInt = a := by unfold iI; exact Int32.toInt_ofInt_of_le h.1 h.2
theorem iI_le {a b : Int} (ha : sm a) (hb : sm b) : iI a ≤ iI b ↔ a ≤ b := by rw [Int32.le_iff_toInt_le, iI_toInt ha, iI_toInt hb]
theorem iI_lt {a b : Int} (ha : sm a) (hb : sm b) : iI a < iI b ↔ a < b := by rw [Int32.lt_iff_toInt_lt, iI_toInt ha, iI_toInt hb]
theorem iI_eq {a b : Int} (ha : sm a) (hb : sm b) : iI a = iI b ↔ a = b := ⟨fun h => by rw [← iI_toInt ha, ← iI_toInt hb, h], fun h => by rw [h]⟩
/-- how many are seen -/
def cs (N : Nat → Bool) : Nat → Nat
  | 0 => 0
  | k + 1 => cs N k + if N k = true then 1 else 0
theorem cs_le (N : Nat → Bool) : ∀ k, cs N k ≤ k := by
  intro k
  induction k with
  | zero => exact Nat.le_refl _
  | succ k ih => unfold cs; split <;> omega
def updB (N : Nat → Bool) (x : Nat) : Nat → Bool := fun j => if j = x then true else N j
theorem cs_upd {N : Nat → Bool} {x : Nat} (h : N x = false) : ∀ k, cs (updB N x) k = cs N k + if x < k then 1 else 0 := by
  intro k
  induction k with
  | zero => rfl
  | succ k ih =>
    show cs (updB N x) k + (if updB N x k = true then 1 else 0) = cs N k + (if N k = true then 1 else 0) + _
    rw [ih]
    unfold updB
    by_cases e : k = x
    · subst e
      rw [if_pos rfl, if_pos rfl, h, if_neg (by omega), if_neg (by decide), if_pos (by omega)]
    · rw [if_neg e]
      by_cases e2 : x < k
      · rw [if_pos e2, if_pos (show x < k + 1 by omega)]; omega
      · rw [if_neg e2, if_neg (show ¬ x < k + 1 by omega)]; rfl
/-- pigeons -/
theorem pigeon : ∀ (m k : Nat) (f : Nat → Nat), (∀ j, 1 ≤ j → j ≤ m → 1 ≤ f j ∧ f j ≤ k) → (∀ i j, 1 ≤ i → i ≤ m → 1 ≤ j → j ≤ m → f i = f j → i = j) → m ≤ k := by
  intro m
  induction m with
  | zero => intro k f _ _; exact Nat.zero_le _
  | succ m ih =>
    intro k f h1 h2
    have hm := h1 (m + 1) (by omega) (Nat.le_refl _)
    have := ih (k - 1) (fun j => if f j = k then f (m + 1) else f j) (fun j hj1 hj2 => by
      have a := h1 j hj1 (by omega)
      have b : ¬ f j = f (m + 1) := fun e => by have := h2 j (m + 1) hj1 (by omega) (by omega) (Nat.le_refl _) e; omega
      by_cases e : f j = k
      · rw [if_pos e]; omega
      · rw [if_neg e]; omega) (fun i j hi1 hi2 hj1 hj2 e => by
      have bi : ¬ f i = f (m + 1) := fun e => by have := h2 i (m + 1) hi1 (by omega) (by omega) (Nat.le_refl _) e; omega
      have bj : ¬ f j = f (m + 1) := fun e => by have := h2 j (m + 1) hj1 (by omega) (by omega) (Nat.le_refl _) e; omega
      by_cases ei : f i = k
      · by_cases ej : f j = k
        · exact h2 i j hi1 (by omega) hj1 (by omega) (by omega)
        · rw [if_pos ei, if_neg ej] at e; exact absurd e.symm bj
      · by_cases ej : f j = k
        · rw [if_neg ei, if_pos ej] at e; exact absurd e bi
        · rw [if_neg ei, if_neg ej] at e; exact h2 i j hi1 (by omega) hj1 (by omega) e)
    omega
/-- costs -/
def mCost (C : Nat → Nat → Int) (n m : Nat) (mc : Nat → Int32) : Prop := ∀ i j, 1 ≤ i → i ≤ n → 1 ≤ j → j ≤ m → mc (i * 13 + j) = iI (C i j) ∧ 0 ≤ C i j ∧ C i j ≤ 100000
def rI (f : Nat → Int32) (U : Nat → Int) (m : Nat) : Prop := ∀ i, i ≤ m → f i = iI (U i)
def rB (f : Nat → Int32) (N : Nat → Bool) (m : Nat) : Prop := ∀ i, i ≤ m → f i = b01 (N i)
def rN (f : Nat → Int32) (P : Nat → Nat) (m : Nat) : Prop := ∀ i, i ≤ m → f i = nI (P i)
def updZ (f : Nat → Int) (k : Nat) (z : Int) : Nat → Int := fun j => if j = k then z else f j
theorem updZ_same (f : Nat → Int) (k : Nat) (z : Int) : updZ f k z k = z := if_pos rfl
theorem updZ_other (f : Nat → Int) {k j : Nat} (z : Int) (h : ¬ j = k) : updZ f k z j = f j := if_neg h
theorem rI_upd {f : Nat → Int32} {U : Nat → Int} {m : Nat} (h : rI f U m) (k : Nat) (z : Int) : rI (upd f k (iI z)) (updZ U k z) m := fun i hi => by
  by_cases e : i = k
  · subst e; rw [upd_same, updZ_same]
  · rw [upd_other _ _ e, updZ_other _ _ e, h i hi]
/-- the second loop: levels rise along the tree -/
theorem nextBox_128 {mc gb sn bb : Nat → Int32} {m q : Nat} {d : Int} {U V K : Nat → Int} {P : Nat → Nat} {N : Nat → Bool} {post : Int32 → (Nat → Int32) → (Nat → Int32) → (Nat → Int32) → (Nat → Int32) → Prop} (hm : m ≤ 12)
    (hgb : rN gb P m) (hsn : rB sn N m) (hP : ∀ y, y ≤ m → P y ≤ 12) (hinj : ∀ y z, y ≤ m → z ≤ m → N y = true → N z = true → P y = P z → y = z)
    (hk : ∀ gl bl sk U' V' K', rI gl U' 12 → rI bl V' 12 → rI sk K' m → (∀ y, y ≤ m → N y = true → U' (P y) = U (P y) + d) → (∀ i, (∀ y, y ≤ m → N y = true → ¬ P y = i) → U' i = U i) → (∀ y, y ≤ m → N y = true → V' y = V y - d) → (∀ y, ¬ (y ≤ m ∧ N y = true) → V' y = V y) → (∀ y, y ≤ m → N y = false → K' y = K y - d) → post (nI q) gl bl bb sk) :
    ∀ n j gl bl sk U' V' K', j ≤ m + 1 → m + 1 - j < n → rI gl U' 12 → rI bl V' 12 → rI sk K' m → (∀ y, y < j → N y = true → U' (P y) = U (P y) + d) → (∀ i, (∀ y, y < j → N y = true → ¬ P y = i) → U' i = U i) → (∀ y, y < j → N y = true → V' y = V y - d) → (∀ y, ¬ (y < j ∧ N y = true) → V' y = V y) → (∀ y, y < j → N y = false → K' y = K y - d) → (∀ y, j ≤ y → K' y = K y) → MT_nextBox_128 mc gb sn post n gl bl bb sk (nI m) (iI d) (nI q) (nI j) := by
  intro n
  induction n with
  | zero => intro j _ _ _ _ _ _ _ h; exact absurd h (Nat.not_lt_zero _)
  | succ n ih =>
    intro j gl bl sk U' V' K' hj hn h1 h2 h3 a1 a2 a3 a4 a5 a6
    unfold MT_nextBox_128
    by_cases e : m < j
    · rw [if_pos (nI_lt e (by omega))]
      have ej : j = m + 1 := by omega
      subst ej
      exact hk gl bl sk U' V' K' h1 h2 h3 (fun y hy => a1 y (by omega)) (fun i hi => a2 i (fun y hy => hi y (by omega))) (fun y hy => a3 y (by omega)) (fun y hy => a4 y (fun h => hy ⟨by omega, h.2⟩)) (fun y hy => a5 y (by omega))
    · rw [if_neg (nI_nlt (by omega) (by omega))]
      have hj12 : j ≤ 12 := by omega
      refine ⟨vp_inN (by omega) (by decide), ?_⟩
      rw [nI_clamp (by omega), hsn j (by omega)]
      cases eN : N j with
      | false =>
        rw [if_pos b01F]
        refine ⟨vp_inN (by omega) (by decide), fun x ex => ⟨vp_inN (by omega) (by decide), fun sk2 es => ?_⟩⟩
        rw [nI_1]
        rw [h3 j (by omega), iI_sub] at ex
        refine ih (j + 1) gl bl sk2 U' V' (updZ K' j (K' j - d)) (by omega) (by omega) h1 h2 (by rw [es, ex]; exact rI_upd h3 j _) (fun y hy hN => ?_) (fun i hi => a2 i (fun y hy => hi y (by omega))) (fun y hy hN => ?_) (fun y hy => a4 y (fun h => hy ⟨by omega, h.2⟩)) (fun y hy hN => ?_) (fun y hy => ?_)
        · by_cases ey : y = j
          · subst ey; rw [eN] at hN; cases hN
          · exact a1 y (by omega) hN
        · by_cases ey : y = j
          · subst ey; rw [eN] at hN; cases hN
          · exact a3 y (by omega) hN
        · by_cases ey : y = j
          · subst ey; rw [updZ_same, a6 y (Nat.le_refl _)]
          · rw [updZ_other _ _ ey]; exact a5 y (by omega) hN
        · rw [updZ_other _ _ (by omega)]; exact a6 y (by omega)
      | true =>
        rw [if_neg b01T, hgb j (by omega)]
        have hPj := hP j (by omega)
        refine ⟨vp_inN (by omega) (by decide), vp_inN (by omega) (by decide), fun x ex => ⟨vp_inN (by omega) (by decide), fun gl2 eg => ⟨vp_inN (by omega) (by decide), fun x2 ex2 => ⟨vp_inN (by omega) (by decide), fun bl2 eb => ?_⟩⟩⟩⟩
        rw [nI_clamp (by omega), h1 (P j) hPj, iI_add] at ex
        rw [nI_clamp (by omega), ex] at eg
        rw [h2 j hj12, iI_sub] at ex2
        rw [ex2] at eb
        rw [nI_1]
        have uj : U' (P j) = U (P j) := a2 (P j) (fun y hy hN e => by have := hinj y j (by omega) (by omega) hN eN e; omega)
        have vj : V' j = V j := a4 j (fun h => by omega)
        refine ih (j + 1) gl2 bl2 sk (updZ U' (P j) (U' (P j) + d)) (updZ V' j (V' j - d)) K' (by omega) (by omega) (by rw [eg]; exact rI_upd h1 _ _) (by rw [eb]; exact rI_upd h2 _ _) h3 (fun y hy hN => ?_) (fun i hi => ?_) (fun y hy hN => ?_) (fun y hy => ?_) (fun y hy hN => ?_) (fun y hy => a6 y (by omega))
        · by_cases ey : y = j
          · subst ey; rw [updZ_same, uj]
          · have : ¬ P y = P j := fun e => ey (hinj y j (by omega) (by omega) hN eN e)
            rw [updZ_other _ _ this]; exact a1 y (by omega) hN
        · rw [updZ_other _ _ (fun e => hi j (by omega) eN e.symm)]
          exact a2 i (fun y hy => hi y (by omega))
        · by_cases ey : y = j
          · subst ey; rw [updZ_same, vj]
          · rw [updZ_other _ _ ey]; exact a3 y (by omega) hN
        · have : ¬ y = j := fun e => hy ⟨by omega, by rw [e]; exact eN⟩
          rw [updZ_other _ _ this]
          exact a4 y (fun h => hy ⟨by omega, h.2⟩)
        · by_cases ey : y = j
          · subst ey; rw [eN] at hN; cases hN
          · exact a5 y (by omega) hN
/-- the first loop: the cheapest box outside the tree -/
theorem nextBox_17 {mc gb sn gl bl : Nat → Int32} {g m x p : Nat} {U V K : Nat → Int} {C : Nat → Nat → Int} {N : Nat → Bool} {bb0 : Nat → Int32} {post : Int32 → (Nat → Int32) → (Nat → Int32) → (Nat → Int32) → (Nat → Int32) → Prop} (hm : m ≤ 12) (hg : g ≤ 12)
    (hC : mCost C g m mc) (hsn : rB sn N m) (hgl : rI gl U 12) (hbl : rI bl V 12) (hp1 : 1 ≤ p) (hpg : p ≤ g) (hU : 0 ≤ U p ∧ U p ≤ 100000) (hV : ∀ j, 1 ≤ j → j ≤ m → -100000 ≤ V j ∧ V j ≤ 0) (hF : ∀ j, 1 ≤ j → j ≤ m → U p + V j ≤ C p j)
    (hKb : ∀ j, 1 ≤ j → j ≤ m → N j = false → 0 ≤ K j ∧ K j ≤ 1000000000) (j0 : Nat) (hj0 : 1 ≤ j0 ∧ j0 ≤ m ∧ N j0 = false)
    (hk : ∀ bb sk K' (d : Int) q, rI sk K' m → 1 ≤ q → q ≤ m → N q = false → K' q = d → 0 ≤ d → d ≤ 200000 → (∀ j, 1 ≤ j → j ≤ m → N j = false → d ≤ K' j) → (∀ j, N j = true ∨ j = 0 → bb j = bb0 j) → (∀ j, 1 ≤ j → j ≤ m → N j = false → (bb j = nI x ∧ K' j = C p j - U p - V j ∧ K' j < K j) ∨ (bb j = bb0 j ∧ K' j = K j ∧ K j ≤ C p j - U p - V j)) → ∃ n', MT_nextBox_128 mc gb sn post n' gl bl bb sk (nI m) (iI d) (nI q) 0) :
    ∀ n j bb sk K' (d : Int) q, 1 ≤ j → j ≤ m + 1 → m + 1 - j < n → rI sk K' m → ((d = 1000000000 ∧ ∀ y, 1 ≤ y → y < j → N y = true) ∨ (1 ≤ q ∧ q < j ∧ N q = false ∧ K' q = d ∧ 0 ≤ d ∧ d ≤ 200000)) → q ≤ m → (∀ y, 1 ≤ y → y < j → N y = false → d ≤ K' y) → (∀ y, N y = true ∨ y = 0 → bb y = bb0 y) → (∀ y, 1 ≤ y → y < j → N y = false → (bb y = nI x ∧ K' y = C p y - U p - V y ∧ K' y < K y) ∨ (bb y = bb0 y ∧ K' y = K y ∧ K y ≤ C p y - U p - V y)) → (∀ y, j ≤ y → K' y = K y ∧ bb y = bb0 y) → MT_nextBox_17 mc gb sn post n gl bl bb sk (nI x) (nI m) (nI p) (iI d) (nI q) (nI j) := by
  intro n
  induction n with
  | zero => intro j _ _ _ _ _ _ _ h; exact absurd h (Nat.not_lt_zero _)
  | succ n ih =>
    intro j bb sk K' d q h1j hj hn hsk hd hqm hmin hbb hdone hrest
    unfold MT_nextBox_17
    by_cases e : m < j
    · rw [if_pos (nI_lt e (by omega))]
      have ej : j = m + 1 := by omega
      subst ej
      rcases hd with ⟨_, hall⟩ | ⟨b1, b2, b3, b4, b5, b6⟩
      · have := hall j0 hj0.1 (by omega); rw [hj0.2.2] at this; cases this
      · exact hk bb sk K' d q hsk b1 (by omega) b3 b4 b5 b6 (fun y hy1 hy2 => hmin y hy1 (by omega)) hbb (fun y hy1 hy2 => hdone y hy1 (by omega))
    · rw [if_neg (nI_nlt (by omega) (by omega))]
      refine ⟨vp_inN (by omega) (by decide), ?_⟩
      rw [nI_clamp (by omega), hsn j (by omega)]
      cases eN : N j with
      | true =>
        rw [if_neg b01T, nI_1]
        refine ih (j + 1) bb sk K' d q (by omega) (by omega) (by omega) hsk ?_ hqm (fun y hy1 hy2 hN => ?_) hbb (fun y hy1 hy2 hN => ?_) (fun y hy => hrest y (by omega))
        · rcases hd with ⟨b0, hall⟩ | ⟨b1, b2, b3, b4, b5, b6⟩
          · refine Or.inl ⟨b0, fun y hy1 hy2 => ?_⟩
            by_cases ey : y = j
            · subst ey; exact eN
            · exact hall y hy1 (by omega)
          · exact Or.inr ⟨b1, by omega, b3, b4, b5, b6⟩
        · by_cases ey : y = j
          · subst ey; rw [eN] at hN; cases hN
          · exact hmin y hy1 (by omega) hN
        · by_cases ey : y = j
          · subst ey; rw [eN] at hN; cases hN
          · exact hdone y hy1 (by omega) hN
      | false =>
        rw [if_pos b01F]
        have hidx : nI p * (13 : Int32) + nI j = nI (p * 13 + j) := by rw [show (13 : Int32) = nI 13 from rfl, pk_mul, nI_add]
        rw [hidx]
        refine ⟨vp_inN (by omega) (by decide), vp_inN (by omega) (by decide), vp_inN (by omega) (by decide), fun c ec => ⟨vp_inN (by omega) (by decide), ?_⟩⟩
        obtain ⟨c1, c2, c3⟩ := hC p j hp1 hpg h1j (by omega)
        have v := hV j h1j (by omega)
        have f := hF j h1j (by omega)
        have kb := hKb j h1j (by omega) eN
        have kr := (hrest j (Nat.le_refl _)).1
        rw [nI_clamp (by omega), c1, nI_clamp (by omega), hgl p (by omega), hbl j (by omega), iI_sub, iI_sub] at ec
        rw [hsk j (by omega), ec]
        -- what follows once the box's slack is settled
        have go : ∀ bb2 sk2 K2, rI sk2 K2 m → (∀ y, ¬ y = j → K2 y = K' y ∧ bb2 y = bb y) → 0 ≤ K2 j → K2 j ≤ 200000 → ((bb2 j = nI x ∧ K2 j = C p j - U p - V j ∧ K2 j < K j) ∨ (bb2 j = bb0 j ∧ K2 j = K j ∧ K j ≤ C p j - U p - V j)) → MT_nextBox_94 mc gb sn (fun aGL' aBL' aBB' aSK' v1' v2' v3' v4' v5' v6' => MT_nextBox_17 mc gb sn post n aGL' aBL' aBB' aSK' v1' v2' v3' v4' v5' v6') post gl bl bb2 sk2 (nI x) (nI m) (nI p) (iI d) (nI q) (nI j) := by
          intro bb2 sk2 K2 hs2 ho hk0 hk1 hset
          refine ⟨vp_inN (by omega) (by decide), ?_⟩
          have hdb : 0 ≤ d ∧ d ≤ 1000000000 := by
            rcases hd with ⟨b0, _⟩ | ⟨_, _, _, _, b5, b6⟩ <;> omega
          rw [nI_clamp (by omega), hs2 j (by omega)]
          have common : ∀ (d2 : Int) q2, q2 ≤ m → (1 ≤ q2 ∧ q2 < j + 1 ∧ N q2 = false ∧ K2 q2 = d2 ∧ 0 ≤ d2 ∧ d2 ≤ 200000) → (∀ y, 1 ≤ y → y < j + 1 → N y = false → d2 ≤ K2 y) → MT_nextBox_17 mc gb sn post n gl bl bb2 sk2 (nI x) (nI m) (nI p) (iI d2) (nI q2) (nI j + 1) := by
            intro d2 q2 hq2 hd2 hmin2
            rw [nI_1]
            refine ih (j + 1) bb2 sk2 K2 d2 q2 (by omega) (by omega) (by omega) hs2 (Or.inr hd2) hq2 hmin2 (fun y hy => ?_) (fun y hy1 hy2 hN => ?_) (fun y hy => ?_)
            · have : ¬ y = j := fun e => by
                subst e
                rcases hy with h | h
                · rw [eN] at h; cases h
                · omega
              rw [(ho y this).2]; exact hbb y hy
            · by_cases ey : y = j
              · subst ey; exact hset
              · rw [(ho y ey).1, (ho y ey).2]; exact hdone y hy1 (by omega) hN
            · rw [(ho y (by omega)).1, (ho y (by omega)).2]; exact hrest y (by omega)
          by_cases hle : d ≤ K2 j
          · rw [if_pos ((iI_le (by unfold sm; omega) (by unfold sm; omega)).mpr hle)]
            rcases hd with ⟨b0, _⟩ | ⟨b1, b2, b3, b4, b5, b6⟩
            · omega
            · refine common d q hqm ⟨b1, by omega, b3, by rw [(ho q (by omega)).1, b4], b5, b6⟩ (fun y hy1 hy2 hN => ?_)
              by_cases ey : y = j
              · subst ey; exact hle
              · rw [(ho y ey).1]; exact hmin y hy1 (by omega) hN
          · rw [if_neg (fun h => hle ((iI_le (by unfold sm; omega) (by unfold sm; omega)).mp h))]
            refine ⟨vp_inN (by omega) (by decide), fun v4 ev => ?_⟩
            rw [ev]
            refine common (K2 j) j (by omega) ⟨h1j, by omega, eN, rfl, hk0, hk1⟩ (fun y hy1 hy2 hN => ?_)
            by_cases ey : y = j
            · subst ey; exact Int.le_refl _
            · rw [(ho y ey).1]; have := hmin y hy1 (by omega) hN; omega
        by_cases hle : K' j ≤ C p j - U p - V j
        · rw [if_pos ((iI_le (by unfold sm; omega) (by unfold sm; omega)).mpr hle)]
          exact go bb sk K' hsk (fun _ _ => ⟨rfl, rfl⟩) (by omega) (by omega) (Or.inr ⟨(hrest j (Nat.le_refl _)).2, kr, by omega⟩)
        · rw [if_neg (fun h => hle ((iI_le (by unfold sm; omega) (by unfold sm; omega)).mp h))]
          refine ⟨vp_inN (by omega) (by decide), fun sk2 es => ⟨vp_inN (by omega) (by decide), fun bb2 eb => ?_⟩⟩
          exact go bb2 sk2 (updZ K' j (C p j - U p - V j)) (by rw [es]; exact rI_upd hsk j _) (fun y hy => ⟨updZ_other _ _ hy, by rw [eb, upd_other _ _ hy]⟩) (by rw [updZ_same]; omega) (by rw [updZ_same]; omega) (Or.inl ⟨by rw [eb, upd_same], updZ_same _ _ _, by rw [updZ_same]; omega⟩)
