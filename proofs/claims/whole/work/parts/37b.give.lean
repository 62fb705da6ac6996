/-! one goal more is given a box -/
def hFeas (C : Nat → Nat → Int) (g m : Nat) (U V : Nat → Int) (P : Nat → Nat) : Prop := (∀ i j, 1 ≤ i → i ≤ g → 1 ≤ j → j ≤ m → U i + V j ≤ C i j) ∧ (∀ i, 0 ≤ U i) ∧ (∀ j, V j ≤ 0) ∧ (∀ j, 1 ≤ j → j ≤ m → P j = 0 → V j = 0) ∧ (∀ j, 1 ≤ j → j ≤ m → ¬ P j = 0 → U (P j) + V j = C (P j) j)
def pMat (g m : Nat) (P : Nat → Nat) : Prop := (∀ j, 1 ≤ j → j ≤ m → P j ≤ g) ∧ (∀ i j, 1 ≤ i → i ≤ m → 1 ≤ j → j ≤ m → ¬ P i = 0 → P i = P j → i = j) ∧ ∀ i, 1 ≤ i → i ≤ g → ∃ j, 1 ≤ j ∧ j ≤ m ∧ P j = i
def tTree (C : Nat → Nat → Int) (m : Nat) (U V : Nat → Int) (P : Nat → Nat) (N : Nat → Bool) (R : Nat → Nat) (bb : Nat → Int32) (x : Nat) : Prop := ∀ y, y ≤ m → (N y = true ∨ y = x) → ¬ y = 0 → ∃ z, bb y = nI z ∧ z ≤ m ∧ N z = true ∧ R z < R y ∧ U (P z) + V y = C (P z) y
def tSlack (C : Nat → Nat → Int) (m : Nat) (U V : Nat → Int) (P : Nat → Nat) (K : Nat → Int) (N : Nat → Bool) (bb : Nat → Int32) (r : Nat) : Prop := ∀ j, 1 ≤ j → j ≤ m → N j = false → 0 ≤ K j ∧ K j ≤ 1000000000 ∧ (∀ y, N y = true → K j ≤ C (P y) j - U (P y) - V j) ∧ ((r = 0 ∧ K j = 1000000000) ∨ (∃ z, bb j = nI z ∧ N z = true ∧ K j = C (P z) j - U (P z) - V j))
def tInv (C : Nat → Nat → Int) (g m : Nat) (v0 : Int) (U V : Nat → Int) (P : Nat → Nat) (K : Nat → Int) (N : Nat → Bool) (R : Nat → Nat) (bb : Nat → Int32) (r x : Nat) : Prop := hFeas C g m U V P ∧ tTree C m U V P N R bb x ∧ (∀ y, N y = true → y ≤ m ∧ ¬ P y = 0 ∧ R y < r) ∧ cs N (m + 1) = r ∧ tSlack C m U V P K N bb r ∧ V 0 + U g = v0 ∧ N x = false ∧ x ≤ m ∧ R x = r ∧ (x = 0 ∨ N 0 = true)
def pPh (g m : Nat) (P : Nat → Nat) : Prop := P 0 = g ∧ (∀ j, 1 ≤ j → j ≤ m → P j < g) ∧ (∀ i j, i ≤ m → j ≤ m → ¬ P i = 0 → P i = P j → i = j) ∧ (∀ i, 1 ≤ i → i ≤ g → ∃ j, j ≤ m ∧ P j = i)
def updN (f : Nat → Nat) (k z : Nat) : Nat → Nat := fun j => if j = k then z else f j
theorem updN_same (f : Nat → Nat) (k z : Nat) : updN f k z k = z := if_pos rfl
theorem updN_other (f : Nat → Nat) {k j : Nat} (z : Nat) (h : ¬ j = k) : updN f k z j = f j := if_neg h
theorem rN_upd {f : Nat → Int32} {U : Nat → Nat} {m : Nat} (h : rN f U m) (k : Nat) (z : Nat) : rN (upd f k (nI z)) (updN U k z) m := fun i hi => by
  by_cases e : i = k
  · subst e; rw [upd_same, updN_same]
  · rw [upd_other _ _ e, updN_other _ _ e, h i hi]
theorem rB_upd {f : Nat → Int32} {N : Nat → Bool} {m : Nat} (h : rB f N m) (k : Nat) : rB (upd f k 1) (updB N k) m := fun i hi => by
  unfold updB
  by_cases e : i = k
  · subst e; rw [upd_same, if_pos rfl]; rfl
  · rw [upd_other _ _ e, if_neg e, h i hi]
/-- the chain of changes, back to the start -/
theorem give_81 {C : Nat → Nat → Int} {mc gl bl bb sk sn : Nat → Int32} {g m x : Nat} {U V : Nat → Int} {P R : Nat → Nat} {N : Nat → Bool} {post : (Nat → Int32) → (Nat → Int32) → (Nat → Int32) → (Nat → Int32) → (Nat → Int32) → (Nat → Int32) → Prop} (hm : m ≤ 12) (hg : g ≤ 12)
    (hF : hFeas C g m U V P) (hT : tTree C m U V P N R bb x) (hS : ∀ y, N y = true → y ≤ m ∧ ¬ P y = 0) (hPg : ∀ y, y ≤ m → P y ≤ g)
    (hk : ∀ gb Q, rN gb Q 12 → hFeas C g m U V Q → pMat g m Q → post gl bl gb bb sk sn) :
    ∀ n t cur gb Q, t + R cur ≤ m → m + 1 - t < n → rN gb Q 12 → cur ≤ m → (N cur = true ∨ cur = x) → (∀ y, N y = true → R y ≤ R cur → ¬ y = x → Q y = P y) → (∀ y, 1 ≤ y → y ≤ m → ¬ y = cur → Q y ≤ g ∧ (Q y = 0 → V y = 0) ∧ (¬ Q y = 0 → U (Q y) + V y = C (Q y) y)) → (∀ y z, y ≤ m → z ≤ m → ¬ y = cur → ¬ z = cur → ¬ Q y = 0 → Q y = Q z → y = z) → (∀ i, 1 ≤ i → i ≤ g → ∃ y, y ≤ m ∧ ¬ y = cur ∧ Q y = i) → N x = false → MT_giveBoxTo_81 mc post n gl bl gb bb sk sn (nI m) (nI cur) (nI t) := by
  intro n
  induction n with
  | zero => intro t _ _ _ _ h; exact absurd h (Nat.not_lt_zero _)
  | succ n ih =>
    intro t cur gb Q ht hn hgb hcm hcur a0 a1 a2 a3 hNx
    unfold MT_giveBoxTo_81
    rw [if_neg (nI_nlt (by omega) (by omega))]
    by_cases e : cur = 0
    · subst e
      rw [if_pos nI_0]
      refine hk gb Q hgb ⟨hF.1, hF.2.1, hF.2.2.1, fun j h1 h2 => (a1 j h1 h2 (by omega)).2.1, fun j h1 h2 => (a1 j h1 h2 (by omega)).2.2⟩ ⟨fun j h1 h2 => (a1 j h1 h2 (by omega)).1, fun i j h1 h2 h3 h4 => a2 i j h2 h4 (by omega) (by omega), fun i h1 h2 => ?_⟩
      obtain ⟨y, b1, b2, b3⟩ := a3 i h1 h2
      exact ⟨y, by omega, b1, b3⟩
    · rw [if_neg (nI_ne0 (by omega) (by omega))]
      obtain ⟨z, hz, hzm, hzN, hzR, hzt⟩ := hT cur hcm hcur e
      refine ⟨vp_inN (by omega) (by decide), fun v5 e5 => ?_⟩
      rw [nI_clamp (by omega), hz] at e5
      subst e5
      refine ⟨vp_inN (by omega) (by decide), fun v e6 => ⟨vp_inN (by omega) (by decide), fun gb2 eg => ?_⟩⟩
      have hzx : ¬ z = x := fun h => by rw [h, hNx] at hzN; cases hzN
      have hzc : ¬ z = cur := fun h => by rw [h] at hzR; omega
      have hQz : Q z = P z := a0 z hzN (by omega) hzx
      have hPz := (hS z hzN).2
      have hPzg := hPg z hzm
      rw [nI_clamp (by omega), hgb z (by omega)] at e6
      rw [nI_clamp (by omega), e6] at eg
      rw [nI_1]
      refine ih (t + 1) z gb2 (updN Q cur (Q z)) (by omega) (by omega) (by rw [eg]; exact rN_upd hgb cur (Q z)) hzm (Or.inl hzN) (fun y hy hR hyx => ?_) (fun y h1 h2 h3 => ?_) (fun y w h1 h2 h3 h4 h5 h6 => ?_) (fun i h1 h2 => ?_) hNx
      · have : ¬ y = cur := fun h => by rw [h] at hR; omega
        rw [updN_other _ _ this]
        exact a0 y hy (by omega) hyx
      · by_cases ey : y = cur
        · subst ey
          rw [updN_same, hQz]
          exact ⟨hPzg, fun h => absurd h hPz, fun _ => hzt⟩
        · rw [updN_other _ _ ey]
          exact a1 y h1 h2 ey
      · by_cases ey : y = cur
        · by_cases ew : w = cur
          · omega
          · rw [ey, updN_same, updN_other _ _ ew] at h6
            rw [ey, updN_same] at h5
            have := a2 z w hzm h2 hzc ew h5 h6
            exact absurd this.symm h4
        · by_cases ew : w = cur
          · rw [ew, updN_same, updN_other _ _ ey] at h6
            rw [updN_other _ _ ey] at h5
            have := a2 y z h1 hzm ey hzc h5 h6
            exact absurd this h3
          · rw [updN_other _ _ ey, updN_other _ _ ew] at h6
            rw [updN_other _ _ ey] at h5
            exact a2 y w h1 h2 ey ew h5 h6
      · obtain ⟨y, b1, b2, b3⟩ := a3 i h1 h2
        by_cases ey : y = z
        · subst ey
          exact ⟨cur, hcm, fun h => hzc h.symm, by rw [updN_same, b3]⟩
        · exact ⟨y, b1, ey, by rw [updN_other _ _ b2, b3]⟩
/-- the tree after one round -/
theorem tInv_next {C : Nat → Nat → Int} {g m : Nat} {v0 d : Int} {U V U' V' K K1 K2 : Nat → Int} {P R : Nat → Nat} {N : Nat → Bool} {bb bb2 : Nat → Int32} {r x q : Nat} (hP : pPh g m P) (hm : m ≤ 12) (hI : tInv C g m v0 U V P K N R bb r x) (hx : ¬ P x = 0) (hq1 : 1 ≤ q) (hqm : q ≤ m) (hqN : updB N x q = false) (hKq : K1 q = d) (hd0 : 0 ≤ d)
    (hcb : ∀ i j, 1 ≤ i → i ≤ g → 1 ≤ j → j ≤ m → 0 ≤ C i j ∧ C i j ≤ 100000)
    (hVb : ∀ j, 1 ≤ j → j ≤ m → -100000 ≤ V j) (hKd : ∀ j, 1 ≤ j → j ≤ m → updB N x j = false → d ≤ K1 j) (hbb : ∀ j, updB N x j = true ∨ j = 0 → bb2 j = bb j)
    (hK : ∀ j, 1 ≤ j → j ≤ m → updB N x j = false → (bb2 j = nI x ∧ K1 j = C (P x) j - U (P x) - V j ∧ K1 j < K j) ∨ (bb2 j = bb j ∧ K1 j = K j ∧ K j ≤ C (P x) j - U (P x) - V j))
    (hU1 : ∀ y, y ≤ m → updB N x y = true → U' (P y) = U (P y) + d) (hU2 : ∀ i, (∀ y, y ≤ m → updB N x y = true → ¬ P y = i) → U' i = U i) (hV1 : ∀ y, y ≤ m → updB N x y = true → V' y = V y - d) (hV2 : ∀ y, ¬ (y ≤ m ∧ updB N x y = true) → V' y = V y) (hK2 : ∀ y, y ≤ m → updB N x y = false → K2 y = K1 y - d) :
    tInv C g m v0 U' V' P K2 (updB N x) (updN R q (r + 1)) bb2 (r + 1) q := by
  obtain ⟨⟨f1, f2, f3, f4, f5⟩, hT, hS, hc, hL, hv0, hNx, hxm, hRx, hx0⟩ := hI
  obtain ⟨p0, p1, p2, p3⟩ := hP
  have nx : updB N x x = true := if_pos rfl
  have nn : ∀ y, N y = true → updB N x y = true := fun y h => by unfold updB; by_cases e : y = x; exact if_pos e; rw [if_neg e]; exact h
  have ns : ∀ y, updB N x y = true → y = x ∨ N y = true := fun y h => by
    unfold updB at h
    by_cases e : y = x
    · exact Or.inl e
    · rw [if_neg e] at h; exact Or.inr h
  have nf : ∀ y, updB N x y = false → N y = false := fun y h => by
    cases e : N y with
    | false => rfl
    | true => rw [nn y e] at h; cases h
  have sm2 : ∀ y, updB N x y = true → y ≤ m ∧ ¬ P y = 0 := fun y h => by
    rcases ns y h with e | e
    · rw [e]; exact ⟨hxm, hx⟩
    · exact ⟨(hS y e).1, (hS y e).2.1⟩
  have Pg : ∀ y, y ≤ m → P y ≤ g := fun y hy => by
    by_cases e : y = 0
    · rw [e, p0]; exact Nat.le_refl _
    · exact Nat.le_of_lt (p1 y (by omega) hy)
  -- a level that rose, or not
  have Ucase : ∀ i, (U' i = U i + d ∧ ∃ y, y ≤ m ∧ updB N x y = true ∧ P y = i) ∨ (U' i = U i ∧ ∀ y, y ≤ m → updB N x y = true → ¬ P y = i) := fun i => by
    by_cases e : ∃ y, y ≤ m ∧ updB N x y = true ∧ P y = i
    · obtain ⟨y, h1, h2, h3⟩ := e
      left; exact ⟨by rw [← h3]; exact hU1 y h1 h2, y, h1, h2, h3⟩
    · right
      have : ∀ y, y ≤ m → updB N x y = true → ¬ P y = i := fun y h1 h2 h3 => e ⟨y, h1, h2, h3⟩
      exact ⟨hU2 i this, this⟩
  -- the slack of an unseen box, against each seen one
  have Kle : ∀ j, 1 ≤ j → j ≤ m → updB N x j = false → ∀ y, updB N x y = true → K1 j ≤ C (P y) j - U (P y) - V j := fun j h1 h2 h3 y hy => by
    have sl := hL j h1 h2 (nf j h3)
    rcases ns y hy with e | e
    · rw [e]
      rcases hK j h1 h2 h3 with ⟨-, k, -⟩ | ⟨-, k, k2⟩ <;> omega
    · have := sl.2.2.1 y e
      rcases hK j h1 h2 h3 with ⟨-, -, k⟩ | ⟨-, k, -⟩ <;> omega
  have tight1 : ∀ j, 1 ≤ j → j ≤ m → ¬ P j = 0 → U' (P j) + V' j = C (P j) j := fun j h1 h2 h3 => by
    have := f5 j h1 h2 h3
    cases e : updB N x j with
    | true => rw [hU1 j h2 e, hV1 j h2 e]; omega
    | false =>
      rw [hV2 j (fun h => by rw [e] at h; cases h.2), hU2 (P j) (fun y hy1 hy2 hy3 => by
        have := p2 y j hy1 h2 (sm2 y hy2).2 hy3
        rw [this, e] at hy2; cases hy2)]
      exact this
  refine ⟨⟨fun i j h1 h2 h3 h4 => ?_, fun i => ?_, fun j => ?_, fun j h1 h2 h3 => ?_, tight1⟩, fun y hy hyx hy0 => ?_, fun y hy => ?_, ?_, fun j h1 h2 h3 => ?_, ?_, hqN, hqm, updN_same _ _ _, Or.inr ?_⟩
  · have b := f1 i j h1 h2 h3 h4
    cases e : updB N x j with
    | true =>
      rw [hV1 j h4 e]
      rcases Ucase i with ⟨u, -⟩ | ⟨u, -⟩ <;> omega
    | false =>
      rw [hV2 j (fun h => by rw [e] at h; cases h.2)]
      rcases Ucase i with ⟨u, y, hy1, hy2, hy3⟩ | ⟨u, -⟩
      · have k := Kle j h3 h4 e y hy2
        have k2 := hKd j h3 h4 e
        rw [hy3] at k
        omega
      · omega
  · have := f2 i
    rcases Ucase i with ⟨u, -⟩ | ⟨u, -⟩ <;> omega
  · have := f3 j
    by_cases e : j ≤ m ∧ updB N x j = true
    · rw [hV1 j e.1 e.2]; omega
    · rw [hV2 j e]; exact this
  · rw [hV2 j (fun h => (sm2 j h.2).2 h3)]
    exact f4 j h1 h2 h3
  · -- the tree
    by_cases eq : y = q
    · subst eq
      rw [updN_same]
      have kq := hK2 y hqm hqN
      have sl := hL y hq1 hqm (nf y hqN)
      rcases hK y hq1 hqm hqN with ⟨b1, b2, -⟩ | ⟨b1, b2, b3⟩
      · have hxq : ¬ x = y := fun e => by rw [← e, nx] at hqN; cases hqN
        refine ⟨x, b1, hxm, nx, by rw [updN_other _ _ hxq]; omega, ?_⟩
        rw [hU1 x hxm nx, hV2 y (fun h => by rw [hqN] at h; cases h.2)]
        omega
      · rcases sl.2.2.2 with ⟨c1, c2⟩ | ⟨z, c1, c2, c3⟩
        · exfalso
          have h1 := hcb (P x) y (by omega) (Pg x hxm) hq1 hqm
          have h2 := f2 (P x)
          have h3 := hVb y hq1 hqm
          omega
        · have hzq : ¬ z = y := fun e => by rw [← e, nn z c2] at hqN; cases hqN
          refine ⟨z, by rw [b1, c1], (hS z c2).1, nn z c2, by rw [updN_other _ _ hzq]; have := (hS z c2).2.2; omega, ?_⟩
          rw [hU1 z (hS z c2).1 (nn z c2), hV2 y (fun h => by rw [hqN] at h; cases h.2)]
          omega
    · have hy2 : updB N x y = true := by rcases hyx with h | h; exact h; exact absurd h eq
      have hyo : N y = true ∨ y = x := (ns y hy2).symm
      obtain ⟨z, c1, c2, c3, c4, c5⟩ := hT y hy hyo hy0
      have hzq : ¬ z = q := fun e => by rw [← e, nn z c3] at hqN; cases hqN
      refine ⟨z, by rw [hbb y (Or.inl hy2), c1], c2, nn z c3, by rw [updN_other _ _ hzq, updN_other _ _ eq]; exact c4, ?_⟩
      rw [hU1 z c2 (nn z c3), hV1 y hy hy2]
      omega
  · have hyq : ¬ y = q := fun e => by rw [e, hqN] at hy; cases hy
    refine ⟨(sm2 y hy).1, (sm2 y hy).2, ?_⟩
    rw [updN_other _ _ hyq]
    rcases ns y hy with e | e
    · rw [e, hRx]; omega
    · have := (hS y e).2.2; omega
  · rw [cs_upd hNx, if_pos (by omega), hc]
  · -- the slack
    have sl := hL j h1 h2 (nf j h3)
    have k2 := hK2 j h2 h3
    have kd := hKd j h1 h2 h3
    have vj := hV2 j (fun h => by rw [h3] at h; cases h.2)
    refine ⟨by omega, ?_, fun y hy => ?_, Or.inr ?_⟩
    · rcases hK j h1 h2 h3 with ⟨-, -, k⟩ | ⟨-, k, -⟩ <;> omega
    · have := Kle j h1 h2 h3 y hy
      rw [hU1 y (sm2 y hy).1 hy, vj]; omega
    · rcases hK j h1 h2 h3 with ⟨b1, b2, -⟩ | ⟨b1, b2, b3⟩
      · refine ⟨x, b1, nx, ?_⟩
        rw [hU1 x hxm nx, vj]; omega
      · rcases sl.2.2.2 with ⟨c1, c2⟩ | ⟨z, c1, c2, c3⟩
        · exfalso
          have q1 := hcb (P x) j (by omega) (Pg x hxm) h1 h2
          have q2 := f2 (P x)
          have q3 := hVb j h1 h2
          omega
        · refine ⟨z, by rw [b1, c1], nn z c2, ?_⟩
          rw [hU1 z (hS z c2).1 (nn z c2), vj]; omega
  · have h0 : updB N x 0 = true := by
      rcases hx0 with h | h
      · rw [← h]; exact nx
      · exact nn 0 h
    have a := hU1 0 (Nat.zero_le _) h0
    have b := hV1 0 (Nat.zero_le _) h0
    rw [p0] at a
    omega
  · rcases hx0 with h | h
    · rw [← h]; exact nx
    · exact nn 0 h
/-- the rounds of one goal -/
theorem give_40 {C : Nat → Nat → Int} {mc : Nat → Int32} {g m j0 : Nat} {v0 : Int} {P : Nat → Nat} {gb : Nat → Int32} {post : (Nat → Int32) → (Nat → Int32) → (Nat → Int32) → (Nat → Int32) → (Nat → Int32) → (Nat → Int32) → Prop} (hm : m ≤ 12) (hg1 : 1 ≤ g) (hg : g ≤ 12) (hC : mCost C g m mc) (hP : pPh g m P) (hgb : rN gb P 12) (hj0 : 1 ≤ j0 ∧ j0 ≤ m ∧ P j0 = 0)
    (hk : ∀ gl bl gb bb sk sn U V Q, rI gl U 12 → rI bl V 12 → rN gb Q 12 → hFeas C g m U V Q → pMat g m Q → (∀ i, g < i → U i = 0) → (∀ i, 1 ≤ i → i ≤ g → U i ≤ 100000) → post gl bl gb bb sk sn) :
    ∀ n r x gl bl bb sk sn U V K N R, m + 1 - r < n → (∀ i, g < i → U i = 0) → rI gl U 12 → rI bl V 12 → rI sk K m → rB sn N m → tInv C g m v0 U V P K N R bb r x → ¬ P x = 0 → MT_giveBoxTo_40 mc post n gl bl gb bb sk sn (nI m) (nI x) (nI r) := by
  intro n
  induction n with
  | zero => intro r _ _ _ _ _ _ _ _ _ _ _ h; exact absurd h (Nat.not_lt_zero _)
  | succ n ih =>
    intro r x gl bl bb sk sn U V K N R hn hU0 hgl hbl hsk hsn hI hx
    have hI0 := hI
    obtain ⟨⟨f1, f2, f3, f4, f5⟩, hT, hS, hc, hL, hv0, hNx, hxm, hRx, hx0⟩ := hI
    obtain ⟨p0, p1, p2, p3⟩ := hP
    have Pg : ∀ y, y ≤ m → P y ≤ g := fun y hy => by
      by_cases e : y = 0
      · rw [e, p0]; exact Nat.le_refl _
      · exact Nat.le_of_lt (p1 y (by omega) hy)
    have hj0N : N j0 = false := by
      cases e : N j0 with
      | false => rfl
      | true => exact absurd hj0.2.2 (hS j0 e).2.1
    have hj0x : ¬ j0 = x := fun e => hx (by rw [← e]; exact hj0.2.2)
    have hj0N1 : updB N x j0 = false := by unfold updB; rw [if_neg hj0x]; exact hj0N
    have hrm : r + 1 ≤ m := by
      have h1 := cs_upd hNx (m + 1)
      have h2 := cs_upd hj0N1 (m + 1)
      have h3 := cs_le (updB (updB N x) j0) (m + 1)
      rw [if_pos (by omega)] at h1 h2
      omega
    have hcb : ∀ i j, 1 ≤ i → i ≤ g → 1 ≤ j → j ≤ m → 0 ≤ C i j ∧ C i j ≤ 100000 := fun i j h1 h2 h3 h4 => (hC i j h1 h2 h3 h4).2
    have hUb : ∀ i, 1 ≤ i → i ≤ g → U i ≤ 100000 := fun i h1 h2 => by
      have a := f1 i j0 h1 h2 hj0.1 hj0.2.1
      have b := f4 j0 hj0.1 hj0.2.1 hj0.2.2
      have c := hcb i j0 h1 h2 hj0.1 hj0.2.1
      omega
    have hVb : ∀ j, 1 ≤ j → j ≤ m → -100000 ≤ V j := fun j h1 h2 => by
      by_cases e : P j = 0
      · rw [f4 j h1 h2 e]; decide
      · have a := f5 j h1 h2 e
        have b := hUb (P j) (by omega) (Pg j h2)
        have c := hcb (P j) j (by omega) (Pg j h2) h1 h2
        omega
    have hPx := Pg x hxm
    unfold MT_giveBoxTo_40
    rw [if_neg (nI_nlt (by omega) (by omega))]
    refine ⟨vp_inN (by omega) (by decide), fun sn1 es => ?_⟩
    rw [nI_clamp (by omega)] at es
    have hsn1 : rB sn1 (updB N x) m := by rw [es]; exact rB_upd hsn x
    refine ⟨vp_inN (by omega) (by decide), fun v3 e3 => ?_⟩
    rw [nI_clamp (by omega), hgb x (by omega)] at e3
    rw [e3]
    have nf : ∀ y, updB N x y = false → N y = false := fun y h => by
      cases e : N y with
      | false => rfl
      | true => unfold updB at h; by_cases e2 : y = x; rw [if_pos e2] at h; cases h; rw [if_neg e2, e] at h; cases h
    refine ⟨m + 2, nextBox_17 (g := g) (x := x) (p := P x) (K := K) (bb0 := bb) (N := updB N x) hm hg hC hsn1 hgl hbl (by omega) hPx ⟨f2 _, hUb _ (by omega) hPx⟩ (fun j h1 h2 => ⟨hVb j h1 h2, f3 j⟩) (fun j h1 h2 => f1 (P x) j (by omega) hPx h1 h2) (fun j h1 h2 h3 => ⟨(hL j h1 h2 (nf j h3)).1, (hL j h1 h2 (nf j h3)).2.1⟩) j0 ⟨hj0.1, hj0.2.1, hj0N1⟩ (fun bb2 sk2 K1 d q c1 c2 c3 c4 c5 c6 c7 c8 c9 c10 => ?_) (m + 2) 1 bb sk K 1000000000 0 (Nat.le_refl _) (by omega) (by omega) hsk (Or.inl ⟨rfl, fun y h1 h2 => by omega⟩) (Nat.zero_le _) (fun y h1 h2 => by omega) (fun _ _ => rfl) (fun y h1 h2 => by omega) (fun _ _ => ⟨rfl, rfl⟩)⟩
    refine ⟨m + 2, nextBox_128 (U := U) (V := V) (K := K1) (P := P) (N := updB N x) hm (fun i hi => hgb i (by omega)) hsn1 (fun y hy => Nat.le_trans (Pg y hy) hg) (fun y z h1 h2 h3 h4 h5 => p2 y z h1 h2 ?_ h5) (fun gl2 bl2 sk3 U' V' K2 d1 d2 d3 d4 d5 d6 d7 d8 => ?_) (m + 2) 0 gl bl sk2 U V K1 (Nat.zero_le _) (by omega) hgl hbl c1 (fun y h => absurd h (Nat.not_lt_zero _)) (fun _ _ => rfl) (fun y h => absurd h (Nat.not_lt_zero _)) (fun _ _ => rfl) (fun y h => absurd h (Nat.not_lt_zero _)) (fun _ _ => rfl)⟩
    · unfold updB at h3
      by_cases e : y = x
      · rw [e]; exact hx
      · rw [if_neg e] at h3; exact (hS y h3).2.1
    · have hU0' : ∀ i, g < i → U' i = 0 := fun i hi => by rw [d5 i (fun y h1 h2 h3 => by have := Pg y h1; omega), hU0 i hi]
      have hI2 := tInv_next ⟨p0, p1, p2, p3⟩ hm hI0 hx c2 c3 c4 c5 c6 hcb hVb c8 c9 c10 d4 d5 d6 d7 d8
      refine ⟨vp_inN (by omega) (by decide), ?_⟩
      rw [nI_clamp (by omega), hgb q (by omega)]
      by_cases e : P q = 0
      · rw [e, if_pos nI_0]
        obtain ⟨g0, gT, gS, gc, gL, gv0, gNx, gxm, gRx, gx0⟩ := hI2
        refine ⟨m + 2, give_81 (g := g) (P := P) (N := updB N x) (x := q) hm hg g0 gT (fun y hy => ⟨(gS y hy).1, (gS y hy).2.1⟩) Pg (fun gb2 Q e1 e2 e3 => hk gl2 bl2 gb2 bb2 sk3 sn1 U' V' Q d1 d2 e1 e2 e3 hU0' (fun i h1 h2 => ?_)) (m + 2) 0 q gb P (by rw [gRx]; omega) (by omega) hgb gxm (Or.inr rfl) (fun _ _ _ _ => rfl) (fun y h1 h2 h3 => ⟨Pg y h2, g0.2.2.2.1 y h1 h2, g0.2.2.2.2 y h1 h2⟩) (fun y z h1 h2 _ _ h5 h6 => p2 y z h1 h2 h5 h6) (fun i h1 h2 => ?_) gNx⟩
        · have a := g0.1 i j0 h1 h2 hj0.1 hj0.2.1
          have b := g0.2.2.2.1 j0 hj0.1 hj0.2.1 hj0.2.2
          have c := hcb i j0 h1 h2 hj0.1 hj0.2.1
          omega
        · obtain ⟨y, b1, b2⟩ := p3 i h1 h2
          exact ⟨y, b1, fun h => by rw [h, e] at b2; omega, b2⟩
      · rw [if_neg (nI_ne0 (by omega) (by have := Pg q c3; omega)), nI_1]
        exact ih (r + 1) q gl2 bl2 bb2 sk3 sn1 U' V' K2 (updB N x) _ (by omega) hU0' d1 d2 d3 hsn1 hI2 e
theorem cs_none : ∀ k, cs (fun _ => false) k = 0 := by
  intro k
  induction k with
  | zero => rfl
  | succ k ih => show cs (fun _ => false) k + (if false = true then 1 else 0) = 0; rw [ih]; rfl
theorem give_9 {mc gl bl gb bb : Nat → Int32} {m : Nat} {post : (Nat → Int32) → (Nat → Int32) → (Nat → Int32) → (Nat → Int32) → (Nat → Int32) → (Nat → Int32) → Prop} (hm : m ≤ 12)
    (hk : ∀ sk sn, rI sk (fun _ => 1000000000) m → rB sn (fun _ => false) m → ∃ n', MT_giveBoxTo_40 mc post n' gl bl gb bb sk sn (nI m) 0 0) :
    ∀ n j sk sn, j ≤ m + 1 → m + 1 - j < n → (∀ i, i < j → sk i = iI 1000000000 ∧ sn i = 0) → MT_giveBoxTo_9 mc post n gl bl gb bb sk sn (nI m) (nI j) := by
  intro n
  induction n with
  | zero => intro j _ _ _ h; exact absurd h (Nat.not_lt_zero _)
  | succ n ih =>
    intro j sk sn hj hn h
    unfold MT_giveBoxTo_9
    by_cases e : m < j
    · rw [if_pos (nI_lt e (by omega))]
      exact hk sk sn (fun i hi => (h i (by omega)).1) (fun i hi => (h i (by omega)).2)
    · rw [if_neg (nI_nlt (by omega) (by omega))]
      refine ⟨vp_inN (by omega) (by decide), fun sk2 es => ⟨vp_inN (by omega) (by decide), fun sn2 en => ?_⟩⟩
      rw [nI_clamp (by omega)] at es en
      rw [nI_1]
      refine ih (j + 1) sk2 sn2 (by omega) (by omega) (fun i hi => ?_)
      rw [es, en]
      by_cases ei : i = j
      · subst ei; rw [upd_same, upd_same]; exact ⟨rfl, rfl⟩
      · rw [upd_other _ _ ei, upd_other _ _ ei]; exact h i (by omega)
theorem giveBoxTo_spec {C : Nat → Nat → Int} {mc gl bl gb bb sk sn : Nat → Int32} {g n m : Nat} {U V : Nat → Int} {P : Nat → Nat} {post : (Nat → Int32) → (Nat → Int32) → (Nat → Int32) → (Nat → Int32) → (Nat → Int32) → (Nat → Int32) → Prop} (hm : m ≤ 12) (hgn : g + 1 ≤ n) (hnm : n ≤ m) (hC : mCost C n m mc)
    (hgl : rI gl U 12) (hbl : rI bl V 12) (hgb : rN gb P 12) (hF : hFeas C g m U V P) (hM : pMat g m P) (hU0 : ∀ i, g < i → U i = 0)
    (hk : ∀ gl bl gb bb sk sn U V Q, rI gl U 12 → rI bl V 12 → rN gb Q 12 → hFeas C (g + 1) m U V Q → pMat (g + 1) m Q → (∀ i, g + 1 < i → U i = 0) → post gl bl gb bb sk sn) :
    MT_giveBoxTo mc gl bl gb bb sk sn (nI (g + 1)) (nI m) post := by
  obtain ⟨f1, f2, f3, f4, f5⟩ := hF
  obtain ⟨m1, m2, m3⟩ := hM
  have hj0 : ∃ j0, 1 ≤ j0 ∧ j0 ≤ m ∧ P j0 = 0 := by
    apply Classical.byContradiction
    intro h
    have := pigeon m g P (fun j h1 h2 => ⟨by have : ¬ P j = 0 := fun e => h ⟨j, h1, h2, e⟩; omega, m1 j h1 h2⟩) (fun i j h1 h2 h3 h4 e => m2 i j h1 h2 h3 h4 (fun e => h ⟨i, h1, h2, e⟩) e)
    omega
  obtain ⟨j0, hj1, hj2, hj3⟩ := hj0
  have o : ∀ j, 1 ≤ j → updN P 0 (g + 1) j = P j := fun j h => updN_other _ _ (by omega)
  have hC1 : mCost C (g + 1) m mc := fun i j h1 h2 h3 h4 => hC i j h1 (by omega) h3 h4
  have hF' : hFeas C (g + 1) m U V (updN P 0 (g + 1)) := by
    refine ⟨fun i j h1 h2 h3 h4 => ?_, f2, f3, fun j h1 h2 h3 => ?_, fun j h1 h2 h3 => ?_⟩
    · by_cases e : i = g + 1
      · have a := hU0 i (by omega)
        have b := f3 j
        have c := (hC i j h1 (by omega) h3 h4).2.1
        omega
      · exact f1 i j h1 (by omega) h3 h4
    · rw [o j h1] at h3; exact f4 j h1 h2 h3
    · rw [o j h1] at h3 ⊢; exact f5 j h1 h2 h3
  have hPh : pPh (g + 1) m (updN P 0 (g + 1)) := by
    refine ⟨updN_same _ _ _, fun j h1 h2 => by rw [o j h1]; have := m1 j h1 h2; omega, fun i j h1 h2 h3 h4 => ?_, fun i h1 h2 => ?_⟩
    · by_cases ei : i = 0
      · by_cases ej : j = 0
        · omega
        · rw [ei, updN_same, o j (by omega)] at h4
          have := m1 j (by omega) h2; omega
      · by_cases ej : j = 0
        · rw [ej, updN_same, o i (by omega)] at h4
          have := m1 i (by omega) h1; omega
        · rw [o i (by omega)] at h3 h4
          rw [o j (by omega)] at h4
          exact m2 i j (by omega) h1 (by omega) h2 h3 h4
    · by_cases e : i = g + 1
      · exact ⟨0, Nat.zero_le _, by rw [updN_same, e]⟩
      · obtain ⟨j, b1, b2, b3⟩ := m3 i h1 (by omega)
        exact ⟨j, b2, by rw [o j b1, b3]⟩
  refine ⟨vp_inN (k := 0) (by decide) (by decide), fun gb2 eg => ?_⟩
  have hgb2 : rN gb2 (updN P 0 (g + 1)) 12 := by rw [eg]; exact rN_upd hgb 0 (g + 1)
  refine ⟨m + 2, give_9 hm (fun sk2 sn2 h1 h2 => ?_) (m + 2) 0 sk sn (Nat.zero_le _) (by omega) (fun i h => absurd h (Nat.not_lt_zero _))⟩
  refine ⟨m + 2, give_40 (g := g + 1) (v0 := V 0 + U (g + 1)) (P := updN P 0 (g + 1)) (j0 := j0) hm (by omega) (by omega) hC1 hPh hgb2 ⟨hj1, hj2, by rw [o j0 hj1]; exact hj3⟩ (fun gl bl gb bb sk sn U V Q a1 a2 a3 a4 a5 a6 _ => hk gl bl gb bb sk sn U V Q a1 a2 a3 a4 a5 a6) (m + 2) 0 0 gl bl bb sk2 sn2 U V (fun _ => 1000000000) (fun _ => false) (fun _ => 0) (by omega) (fun i hi => hU0 i (by omega)) hgl hbl h1 h2 ?_ (by rw [updN_same]; omega)⟩
  refine ⟨hF', fun y _ h h0 => ?_, fun y h => Bool.noConfusion h, cs_none _, fun j _ _ _ => ⟨show (0 : Int) ≤ 1000000000 by decide, Int.le_refl _, fun y h => Bool.noConfusion h, Or.inl ⟨rfl, rfl⟩⟩, rfl, rfl, Nat.zero_le _, rfl, Or.inl rfl⟩
  rcases h with h | h
  · exact Bool.noConfusion h
  · exact absurd h h0
/-- what is paid -/
def sC (C : Nat → Nat → Int) (P : Nat → Nat) : Nat → Int
  | 0 => 0
  | j + 1 => sC C P j + if P (j + 1) = 0 then 0 else C (P (j + 1)) (j + 1)
theorem least_61 {C : Nat → Nat → Int} {mc gl bl gb bb sk sn : Nat → Int32} {n m : Nat} {P : Nat → Nat} {post : Int32 → (Nat → Int32) → (Nat → Int32) → (Nat → Int32) → (Nat → Int32) → (Nat → Int32) → (Nat → Int32) → Prop} (hm : m ≤ 12) (hn12 : n ≤ m) (hC : mCost C n m mc) (hgb : rN gb P 12) (hPn : ∀ j, 1 ≤ j → j ≤ m → P j ≤ n)
    (hk : post (if sC C P m < 100000 then iI (sC C P m) else -1) gl bl gb bb sk sn) :
    ∀ f j, 1 ≤ j → j ≤ m + 1 → m + 1 - j < f → 0 ≤ sC C P (j - 1) → sC C P (j - 1) ≤ 100000 * ((j : Int) - 1) → MT_leastSum_61 mc post f gl bl gb bb sk sn (nI m) (iI (sC C P (j - 1))) (nI j) := by
  intro f
  induction f with
  | zero => intro j _ _ h; exact absurd h (Nat.not_lt_zero _)
  | succ f ih =>
    intro j h1 hj hf h0 hb
    unfold MT_leastSum_61
    by_cases e : m < j
    · rw [if_pos (nI_lt e (by omega))]
      have ej : j = m + 1 := by omega
      subst ej
      rw [show m + 1 - 1 = m from rfl] at *
      by_cases q : sC C P m < 100000
      · rw [show (100000 : Int32) = iI 100000 from rfl, if_pos ((iI_lt (a := sC C P m) (b := 100000) (by unfold sm; omega) (by unfold sm; omega)).mpr q)]
        rw [if_pos q] at hk; exact hk
      · rw [show (100000 : Int32) = iI 100000 from rfl, if_neg (fun h => q ((iI_lt (a := sC C P m) (b := 100000) (by unfold sm; omega) (by unfold sm; omega)).mp h))]
        rw [if_neg q] at hk; exact hk
    · rw [if_neg (nI_nlt (by omega) (by omega))]
      refine ⟨vp_inN (by omega) (by decide), ?_⟩
      obtain ⟨k, rfl⟩ : ∃ k, j = k + 1 := ⟨j - 1, by omega⟩
      rw [show k + 1 - 1 = k from rfl] at *
      have hs : sC C P (k + 1) = sC C P k + if P (k + 1) = 0 then 0 else C (P (k + 1)) (k + 1) := rfl
      rw [nI_clamp (by omega), hgb (k + 1) (by omega)]
      by_cases q : P (k + 1) = 0
      · rw [q, if_pos nI_0, nI_1]
        rw [if_pos q] at hs
        have := ih (k + 1 + 1) (by omega) (by omega) (by omega) (by rw [show k + 1 + 1 - 1 = k + 1 from rfl]; omega) (by rw [show k + 1 + 1 - 1 = k + 1 from rfl]; omega)
        rw [show k + 1 + 1 - 1 = k + 1 from rfl, hs, show sC C P k + 0 = sC C P k by omega] at this
        exact this
      · have hp := hPn (k + 1) (by omega) (by omega)
        rw [if_neg (nI_ne0 (by omega) (by omega)), show (13 : Int32) = nI 13 from rfl, pk_mul, nI_add]
        refine ⟨vp_inN (by omega) (by decide), vp_inN (by omega) (by decide), fun v ev => ?_⟩
        obtain ⟨c1, c2, c3⟩ := hC (P (k + 1)) (k + 1) (by omega) hp (by omega) (by omega)
        rw [nI_clamp (by omega), c1, iI_add] at ev
        rw [if_neg q] at hs
        rw [nI_1, ev, ← hs]
        exact ih (k + 1 + 1) (by omega) (by omega) (by omega) (by rw [show k + 1 + 1 - 1 = k + 1 from rfl]; omega) (by rw [show k + 1 + 1 - 1 = k + 1 from rfl]; omega)
theorem least_39 {C : Nat → Nat → Int} {mc : Nat → Int32} {n m : Nat} {post : Int32 → (Nat → Int32) → (Nat → Int32) → (Nat → Int32) → (Nat → Int32) → (Nat → Int32) → (Nat → Int32) → Prop} (hm : m ≤ 12) (hnm : n ≤ m) (hC : mCost C n m mc)
    (hk : ∀ gl bl gb bb sk sn U V P, hFeas C n m U V P → pMat n m P → post (if sC C P m < 100000 then iI (sC C P m) else -1) gl bl gb bb sk sn) :
    ∀ f g gl bl gb bb sk sn U V P, g ≤ n → n + 1 - g < f → rI gl U 12 → rI bl V 12 → rN gb P 12 → hFeas C g m U V P → pMat g m P → (∀ i, g < i → U i = 0) → MT_leastSum_39 mc post f gl bl gb bb sk sn (nI n) (nI m) (nI (g + 1)) := by
  intro f
  induction f with
  | zero => intro g _ _ _ _ _ _ _ _ _ _ h; exact absurd h (Nat.not_lt_zero _)
  | succ f ih =>
    intro g gl bl gb bb sk sn U V P hg hf hgl hbl hgb hF hM hU0
    unfold MT_leastSum_39
    by_cases e : n < g + 1
    · rw [if_pos (nI_lt e (by omega))]
      have eg : g = n := by omega
      subst eg
      exact ⟨m + 1, least_61 hm hnm hC hgb hM.1 (hk gl bl gb bb sk sn U V P hF hM) (m + 1) 1 (Nat.le_refl _) (by omega) (by omega) (Int.le_refl _) (show (0 : Int) ≤ 100000 * (1 - 1) by decide)⟩
    · rw [if_neg (nI_nlt (by omega) (by omega))]
      refine giveBoxTo_spec hm (by omega) hnm hC hgl hbl hgb hF hM hU0 (fun gl bl gb bb sk sn U V Q a1 a2 a3 a4 a5 a6 => ?_)
      rw [nI_1]
      exact ih (g + 1) gl bl gb bb sk sn U V Q (by omega) (by omega) a1 a2 a3 a4 a5 a6
theorem leastSum_spec {C : Nat → Nat → Int} {mc gl bl gb bb sk sn : Nat → Int32} {n m : Nat} {post : Int32 → (Nat → Int32) → (Nat → Int32) → (Nat → Int32) → (Nat → Int32) → (Nat → Int32) → (Nat → Int32) → Prop} (hm : m ≤ 12) (hnm : n ≤ m) (hC : mCost C n m mc)
    (hk : ∀ gl bl gb bb sk sn U V P, hFeas C n m U V P → pMat n m P → post (if sC C P m < 100000 then iI (sC C P m) else -1) gl bl gb bb sk sn) : MT_leastSum mc gl bl gb bb sk sn (nI n) (nI m) post := by
  unfold MT_leastSum
  rw [if_neg (nI_nlt hnm (by omega)), if_pos (show nI m ≤ (12 : Int32) from nI_le (b := 12) hm (by decide))]
  intro gl2 e1 bl2 e2 gb2 e3
  have z : ∀ (f : Nat → Int32) i, i ≤ 12 → aFill 13 0 f i = 0 := fun f i hi => if_pos (by omega)
  refine ⟨n + 2, least_39 hm hnm hC hk (n + 2) 0 gl2 bl2 gb2 bb sk sn (fun _ => 0) (fun _ => 0) (fun _ => 0) (Nat.zero_le _) (by omega) (fun i hi => by rw [e1, z _ i hi]; rfl) (fun i hi => by rw [e2, z _ i hi]; rfl) (fun i hi => by rw [e3, z _ i hi]; rfl) ⟨fun i j h1 h2 => by omega, fun _ => Int.le_refl _, fun _ => Int.le_refl _, fun _ _ _ _ => rfl, fun _ _ _ h => absurd rfl h⟩ ⟨fun _ _ _ => Nat.le_refl _, fun _ _ _ _ _ _ h => absurd rfl h, fun i h1 h2 => by omega⟩ (fun _ _ => rfl)⟩
