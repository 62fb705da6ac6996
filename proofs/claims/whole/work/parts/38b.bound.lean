/-! the k-th cell of a set -/
def isNth (x : Int64) (k c : Nat) : Prop := c < 64 ∧ tb x c = true ∧ cntN x c = k
theorem cntN_s (x : Int64) (k : Nat) : cntN x (k + 1) = cntN x k + if tb x k = true then 1 else 0 := rfl
theorem cntN_t {x : Int64} {k : Nat} (h : tb x k = true) : cntN x (k + 1) = cntN x k + 1 := by rw [cntN_s, if_pos h]
theorem cntN_f {x : Int64} {k : Nat} (h : tb x k = false) : cntN x (k + 1) = cntN x k := by rw [cntN_s, if_neg (by rw [h]; decide)]; rfl
theorem cnN_mono (x : Int64) {a : Nat} : ∀ d, cntN x a ≤ cntN x (a + d) := by
  intro d
  induction d with
  | zero => exact Nat.le_refl _
  | succ d ih => rw [show a + (d + 1) = a + d + 1 from rfl, cntN_s]; omega
theorem cnN_le {x : Int64} {c : Nat} (h : c ≤ 64) : cntN x c ≤ cnt x := by
  have := cnN_mono x (a := c) (64 - c)
  rw [show c + (64 - c) = 64 by omega] at this
  exact this
theorem cnN_lt {x : Int64} {c : Nat} (hc : c < 64) (h : tb x c = true) : cntN x c < cnt x := by
  have := cnN_le (x := x) (c := c + 1) (by omega)
  rw [cntN_t h] at this
  omega
theorem isNth.uniq {x : Int64} {k a b : Nat} (ha : isNth x k a) (hb : isNth x k b) : a = b := by
  have key : ∀ a b, isNth x k a → isNth x k b → ¬ a < b := fun a b ha hb h => by
    have h1 := cntN_t ha.2.1
    have h2 := cnN_mono x (a := a + 1) (b - (a + 1))
    rw [show a + 1 + (b - (a + 1)) = b by omega] at h2
    have h3 := ha.2.2
    have h4 := hb.2.2
    omega
  have h1 := key a b ha hb
  have h2 := key b a hb ha
  omega
theorem isNth_ex {x : Int64} {k : Nat} : ∀ n, k < cntN x n → n ≤ 64 → ∃ c, isNth x k c := by
  intro n
  induction n with
  | zero => intro h; exact absurd h (Nat.not_lt_zero _)
  | succ n ih =>
    intro h hn
    by_cases e : k < cntN x n
    · exact ih e (by omega)
    · cases q : tb x n with
      | false => rw [cntN_f q] at h; omega
      | true => rw [cntN_t q] at h; exact ⟨n, by omega, q, by omega⟩
noncomputable def nthF (x : Int64) (k : Nat) : Nat := (Classical.epsilon (isNth x k)) % 64
theorem nthF_eq {x : Int64} {k c : Nat} (h : isNth x k c) : nthF x k = c := by
  unfold nthF
  have h1 : isNth x k (Classical.epsilon (isNth x k)) := Classical.epsilon_spec ⟨c, h⟩
  rw [h1.uniq h]
  exact Nat.mod_eq_of_lt h.1
theorem nthF_lt (x : Int64) (k : Nat) : nthF x k < 64 := Nat.mod_lt _ (by decide)
noncomputable def Dm (fl gl bx : Int64) : Nat → Nat → Int32 := fun k b => stP fl (nthF bx b) (nthF gl k)
theorem stP_ok (fl : Int64) (s : Nat) {c : Nat} (hc : c < 64) : stP fl s c = -1 ∨ ∃ a, a ≤ 63 ∧ stP fl s c = nI a := by
  unfold stP
  cases e : tb (VP fl s 63) c with
  | false => exact Or.inl (dv_out (VP_sub fl s) hc e)
  | true =>
    obtain ⟨m, h1, h2, -, -⟩ := dv_nat (VP_sub fl s) hc 63 e
    exact Or.inr ⟨m, h1, h2⟩
theorem Dm_ok (fl gl bx : Int64) : dOK (Dm fl gl bx) := fun k b => stP_ok fl _ (nthF_lt _ _)
theorem cst_iI {v : Int32} (h : v = -1 ∨ ∃ a, a ≤ 63 ∧ v = nI a) : iI (cst v) = if 0 ≤ v then v else 100000 := by
  rcases h with h | ⟨a, h1, h2⟩
  · rw [h]; decide
  · rw [h2, if_pos (nI_pos' (by omega)), cst_n h1]; rfl
/-- the program's costs -/
theorem setCost_spec {mc : Nat → Int32} {k b : Nat} {v : Int32} {post : (Nat → Int32) → Prop} (hk : k < 12) (hb : b < 12) (hv : v = -1 ∨ ∃ a, a ≤ 63 ∧ v = nI a) (h : post (upd mc ((k + 1) * 13 + (b + 1)) (iI (cst v)))) : MT_setCost mc (nI k) (nI b) v post := by
  unfold MT_setCost
  have ei : ((nI k + 1) * (13 : Int32) + nI b) + 1 = nI ((k + 1) * 13 + (b + 1)) := by rw [nI_1, show (13 : Int32) = nI 13 from rfl, pk_mul, nI_add, nI_1]; rfl
  rw [if_neg (nI_pos (by omega)), if_neg (kG (k := 12) (by omega) (by decide)), if_neg (nI_pos (by omega)), if_neg (kG (k := 12) (by omega) (by decide)), ei]
  rw [cst_iI hv] at h
  by_cases q : 0 ≤ v
  · rw [if_pos q]
    rw [if_pos q] at h
    refine ⟨vp_inN (by omega) (by decide), fun g eg => ?_⟩
    rw [nI_clamp (by omega)] at eg
    rw [eg]; exact h
  · rw [if_neg q]
    rw [if_neg q] at h
    refine ⟨vp_inN (by omega) (by decide), fun g eg => ?_⟩
    rw [nI_clamp (by omega)] at eg
    rw [eg]; exact h
def mcOK (D : Nat → Nat → Int32) (n : Nat) (B : Nat) (mc : Nat → Int32) : Prop := ∀ k b, k < n → b < B → mc ((k + 1) * 13 + (b + 1)) = iI (cst (D k b))
theorem PB_bound_44_spec {fl gl bx : Int64} {c : Nat} {k6 : (Nat → Int32) → (Nat → Int32) → (Nat → Int32) → (Nat → Int32) → (Nat → Int32) → (Nat → Int32) → (Nat → Int32) → (Nat → Int32) → Int32 → Int32 → Int32 → Prop} {post : Int32 → (Nat → Int32) → (Nat → Int32) → (Nat → Int32) → (Nat → Int32) → (Nat → Int32) → (Nat → Int32) → (Nat → Int32) → (Nat → Int32) → Prop} {bs a1 a2 a3 a4 a5 a6 : Nat → Int32} (hbx : cnt bx ≤ 12) (hgl : cnt gl ≤ 12) (hc : c < 64) (hcb : tb bx c = true) (hbs : ∀ j, j < 64 → bs j = stP fl c j)
    (hk : ∀ mc, mcOK (Dm fl gl bx) (cnt gl) (cntN bx (c + 1)) mc → k6 bs mc a1 a2 a3 a4 a5 a6 (nI (cntN bx (c + 1))) (nI (cnt gl)) (nI (c + 1))) :
    ∀ n e mc, e ≤ 64 → 64 - e < n → mcOK (Dm fl gl bx) (cnt gl) (cntN bx c) mc → (∀ k, k < cntN gl e → mc ((k + 1) * 13 + (cntN bx c + 1)) = iI (cst (Dm fl gl bx k (cntN bx c)))) → PB_bound_44 fl gl bx k6 post n bs mc a1 a2 a3 a4 a5 a6 (nI (cntN bx c)) (nI (cntN gl e)) (nI c) (nI e) := by
  intro n
  induction n with
  | zero => intro e mc _ h; exact absurd h (Nat.not_lt_zero _)
  | succ n ih =>
    intro e mc he hn h1 h2
    have hcl := cnN_lt hc hcb
    unfold PB_bound_44
    by_cases q : 64 ≤ e
    · have e64 : e = 64 := by omega
      subst e64
      rw [if_pos (kL q (by omega)), nI_1, nI_1, ← cntN_t hcb]
      refine hk mc (fun k b hk hb => ?_)
      rw [cntN_t hcb] at hb
      by_cases eb : b = cntN bx c
      · rw [eb]; exact h2 k hk
      · exact h1 k b hk (by omega)
    · rw [if_neg (kG (k := 64) (by omega) (by decide))]
      refine PB_has_spec (by omega) ?_
      cases q2 : tb gl e with
      | false =>
        rw [if_pos b01F, nI_1]
        have := ih (e + 1) mc (by omega) (by omega) h1 (by rw [cntN_f q2]; exact h2)
        rw [cntN_f q2] at this
        exact this
      | true =>
        have hgl2 := cnN_lt (by omega) q2
        rw [if_neg b01T]
        refine ⟨vp_inN (by omega) (by decide), ?_⟩
        rw [nI_clamp (by omega), hbs e (by omega)]
        refine setCost_spec (by omega) (by omega) (stP_ok fl c (by omega)) ?_
        rw [nI_1, nI_1]
        have hD : Dm fl gl bx (cntN gl e) (cntN bx c) = stP fl c e := by
          show stP fl (nthF bx (cntN bx c)) (nthF gl (cntN gl e)) = _
          rw [nthF_eq ⟨hc, hcb, rfl⟩, nthF_eq ⟨by omega, q2, rfl⟩]
        have X := ih (e + 1) (upd mc ((cntN gl e + 1) * 13 + (cntN bx c + 1)) (iI (cst (stP fl c e)))) (by omega) (by omega) (fun k b hk hb => by
          rw [upd_other _ _ (by omega)]; exact h1 k b hk hb) (fun k hk => by
          rw [cntN_t q2] at hk
          by_cases ek : k = cntN gl e
          · rw [ek, upd_same, hD]
          · rw [upd_other _ _ (by omega)]; exact h2 k (by omega))
        rw [cntN_t q2] at X
        exact X
theorem PB_bound_6_spec {fl gl bx : Int64} {post : Int32 → (Nat → Int32) → (Nat → Int32) → (Nat → Int32) → (Nat → Int32) → (Nat → Int32) → (Nat → Int32) → (Nat → Int32) → (Nat → Int32) → Prop} (hbx : cnt bx ≤ 12) (hgl : cnt gl ≤ cnt bx)
    (hk : ∀ r bs mc a1 a2 a3 a4 a5 a6, isMin (Asg (Dm fl gl bx) (cnt gl) (cnt bx) (2 ^ cnt gl - 1)) r → post r bs mc a1 a2 a3 a4 a5 a6) :
    ∀ n c g bs mc a1 a2 a3 a4 a5 a6, c ≤ 64 → 64 - c < n → mcOK (Dm fl gl bx) (cnt gl) (cntN bx c) mc → (g = cnt gl ∨ cntN bx c = 0 ∧ g = 0) → PB_bound_6 fl gl bx post n bs mc a1 a2 a3 a4 a5 a6 (nI (cntN bx c)) (nI g) (nI c) := by
  intro n
  induction n with
  | zero => intro c g _ _ _ _ _ _ _ _ _ h; exact absurd h (Nat.not_lt_zero _)
  | succ n ih =>
    intro c g bs mc a1 a2 a3 a4 a5 a6 hc hn hmc hg
    unfold PB_bound_6
    by_cases q : 64 ≤ c
    · have e64 : c = 64 := by omega
      subst e64
      have eb : cntN bx 64 = cnt bx := rfl
      have hg2 : g = cnt gl := by
        rcases hg with h | ⟨h1, h2⟩
        · exact h
        · rw [eb] at h1; omega
      rw [if_pos (kL q (by omega)), hg2]
      refine leastSum_spec (C := cD (Dm fl gl bx)) (m := cnt bx) hbx hgl (fun i j h1 h2 h3 h4 => ?_) (fun b1 b2 b3 b4 b5 b6 U V P hF hM => hk _ bs mc b1 b2 b3 b4 b5 b6 (hung_min hbx (Dm_ok fl gl bx) hF hM))
      have e := hmc (i - 1) (j - 1) (by omega) (by rw [eb]; omega)
      rw [show i - 1 + 1 = i by omega, show j - 1 + 1 = j by omega] at e
      refine ⟨e, ?_⟩
      show 0 ≤ cst (Dm fl gl bx (i - 1) (j - 1)) ∧ cst (Dm fl gl bx (i - 1) (j - 1)) ≤ 100000
      rcases Dm_ok fl gl bx (i - 1) (j - 1) with z | ⟨a, z1, z2⟩
      · rw [z]; decide
      · rw [z2, cst_n z1]; omega
    · rw [if_neg (kG (k := 64) (by omega) (by decide))]
      refine PB_has_spec (by omega) ?_
      cases q2 : tb bx c with
      | false =>
        rw [if_pos b01F, nI_1]
        have := ih (c + 1) g bs mc a1 a2 a3 a4 a5 a6 (by omega) (by omega) (by rw [cntN_f q2]; exact hmc) (by rw [cntN_f q2]; exact hg)
        rw [cntN_f q2] at this
        exact this
      | true =>
        rw [if_neg b01T]
        refine BO_fillBoxSteps_spec (s := c) (fun bs2 hbs => ⟨65, ?_⟩)
        refine PB_bound_44_spec hbx (by omega) (by omega) q2 hbs (fun mc2 h => ih (c + 1) (cnt gl) bs2 mc2 a1 a2 a3 a4 a5 a6 (by omega) (by omega) h (Or.inl rfl)) 65 0 mc (by decide) (by decide) hmc (fun k hk => absurd hk (Nat.not_lt_zero _))
theorem PB_bound_spec {fl gl bx : Int64} {post : Int32 → (Nat → Int32) → (Nat → Int32) → (Nat → Int32) → (Nat → Int32) → (Nat → Int32) → (Nat → Int32) → (Nat → Int32) → (Nat → Int32) → Prop} {bs mc a1 a2 a3 a4 a5 a6 : Nat → Int32} (hbx : cnt bx ≤ 12) (hgl : cnt gl ≤ cnt bx)
    (hk : ∀ r bs mc a1 a2 a3 a4 a5 a6, isMin (Asg (Dm fl gl bx) (cnt gl) (cnt bx) (2 ^ cnt gl - 1)) r → post r bs mc a1 a2 a3 a4 a5 a6) : PB_bound fl gl bx bs mc a1 a2 a3 a4 a5 a6 post :=
  ⟨65, PB_bound_6_spec hbx hgl hk 65 0 0 bs mc a1 a2 a3 a4 a5 a6 (by decide) (by decide) (fun k b _ h => absurd h (Nat.not_lt_zero _)) (Or.inr ⟨rfl, rfl⟩)⟩
/-! the reference's -/
theorem MO_goalAt_spec {gl : Int64} {k c : Nat} (hc : isNth gl k c) {post : Int32 → Prop} (h : post (nI c)) : ∀ n e, e ≤ c → 64 - e < n → MO_goalAt_4 gl post n (nI k) (nI (cntN gl e)) (nI e) := by
  intro n
  induction n with
  | zero => intro e _ h; exact absurd h (Nat.not_lt_zero _)
  | succ n ih =>
    intro e he hn
    have hc1 := hc.1
    have hcm := cnN_mono gl (a := e) (c - e)
    rw [show e + (c - e) = c by omega, hc.2.2] at hcm
    have hkl := cnN_lt hc.1 hc.2.1
    have hcl := cnt_le gl
    rw [hc.2.2] at hkl
    unfold MO_goalAt_4
    rw [if_neg (kG (k := 64) (by omega) (by decide))]
    refine MO_has_spec (by omega) ?_
    cases q : tb gl e with
    | false =>
      rw [if_pos b01F, nI_1]
      have he2 : ¬ e = c := fun x => by rw [x, hc.2.1] at q; cases q
      have := ih (e + 1) (by omega) (by omega)
      rw [cntN_f q] at this
      exact this
    | true =>
      rw [if_neg b01T]
      by_cases e2 : cntN gl e = k
      · rw [if_pos (by rw [e2])]
        have : isNth gl k e := ⟨by omega, q, e2⟩
        rw [this.uniq hc]; exact h
      · rw [if_neg (fun x => e2 ((nI_eq (by omega) (by omega)).mp x)), nI_1, nI_1]
        have he2 : ¬ e = c := fun x => e2 (by rw [x]; exact hc.2.2)
        have := ih (e + 1) (by omega) (by omega)
        rw [cntN_t q] at this
        exact this
theorem nI_xor (a b : Nat) : nI a ^^^ nI b = nI (a ^^^ b) := Int32.toBitVec_inj.mp (by
  rw [Int32.toBitVec_xor]
  show BitVec.ofNat 32 a ^^^ BitVec.ofNat 32 b = BitVec.ofNat 32 (a ^^^ b)
  apply BitVec.eq_of_getLsbD_eq
  intro i hi
  rw [BitVec.getLsbD_xor, BitVec.getLsbD_ofNat, BitVec.getLsbD_ofNat, BitVec.getLsbD_ofNat, Nat.testBit_xor]
  simp [hi])
theorem sh31 : ∀ k, k < 32 → ((nI k &&& 31).toBitVec.smod 32).toNat = k := by decide +kernel
theorem one_shl {k : Nat} (h : k ≤ 12) : (1 : Int32) <<< (nI k &&& 31) = nI (2 ^ k) := by
  have hp : 2 ^ k ≤ 2 ^ 12 := Nat.pow_le_pow_right (by decide) h
  rw [show (1 : Int32) = nI 1 from rfl, pk_shlN (n := 1) (nI k &&& 31) k (sh31 k (by omega)) (by omega), Nat.one_mul]
theorem bit_at {s k : Nat} (hs : s < 4096) (hk : k < 12) : (nI s >>> (nI k &&& 31)) &&& (1 : Int32) = b01 (s.testBit k) := by
  have h1 : s / 2 ^ k ≤ s := Nat.div_le_self _ _
  rw [pk_shrN (by omega) (nI k &&& 31) k (sh31 k (by omega)), pk_andN (by omega) 1 (by decide), Nat.testBit_eq_decide_div_mod_eq]
  rcases (show s / 2 ^ k % 2 ^ 1 = 0 ∨ s / 2 ^ k % 2 ^ 1 = 1 by omega) with e | e
  · rw [e]; rfl
  · rw [e]; rfl
theorem xor_lt {s k : Nat} (h : s.testBit k = true) : s ^^^ 2 ^ k < s := by
  have h1 : (s ^^^ 2 ^ k) / 2 ^ (k + 1) = s / 2 ^ (k + 1) := by
    rw [Nat.xor_div_two_pow, Nat.div_eq_of_lt (Nat.pow_lt_pow_right (by decide) (Nat.lt_succ_self k)), Nat.xor_zero]
  have h2 : (s ^^^ 2 ^ k) % 2 ^ (k + 1) < 2 ^ k := by
    refine Nat.lt_pow_two_of_testBit _ (fun i hi => ?_)
    rw [Nat.testBit_mod_two_pow, tbx]
    by_cases e : k = i
    · subst e; rw [h]; simp
    · have : ¬ i < k + 1 := by omega
      simp [this]
  have h3 : 2 ^ k ≤ s % 2 ^ (k + 1) := Nat.ge_two_pow_of_testBit (by rw [Nat.testBit_mod_two_pow, h]; simp)
  have a := Nat.div_add_mod (s ^^^ 2 ^ k) (2 ^ (k + 1))
  have b := Nat.div_add_mod s (2 ^ (k + 1))
  rw [h1] at a
  omega
def AsgK (D : Nat → Nat → Int32) (n b s kk t : Nat) : Prop := Asg D n b s t ∨ ∃ k, k < kk ∧ k < n ∧ s.testBit k = true ∧ ∃ a t', D k b = nI a ∧ a ≤ 63 ∧ t = t' + a ∧ Asg D n b (s ^^^ 2 ^ k) t'
theorem AsgK_n {D : Nat → Nat → Int32} {n b s t : Nat} : AsgK D n b s n t ↔ Asg D n (b + 1) s t := by
  constructor
  · rintro (h | ⟨k, h1, h2, h⟩)
    · exact Or.inl h
    · exact Or.inr ⟨k, h2, h⟩
  · rintro (h | ⟨k, h2, h⟩)
    · exact Or.inl h
    · exact Or.inr ⟨k, h2, h2, h⟩
theorem AsgK_0 {D : Nat → Nat → Int32} {n b s t : Nat} : AsgK D n b s 0 t ↔ Asg D n b s t := ⟨fun h => h.elim id (fun ⟨k, h, _⟩ => absurd h (Nat.not_lt_zero _)), Or.inl⟩
theorem AsgK_skip {D : Nat → Nat → Int32} {n b s k : Nat} (h : s.testBit k = true → ∀ a t', D k b = nI a → a ≤ 63 → ¬ Asg D n b (s ^^^ 2 ^ k) t') (t : Nat) : AsgK D n b s k t ↔ AsgK D n b s (k + 1) t := by
  constructor
  · rintro (g | ⟨j, h1, h2⟩)
    · exact Or.inl g
    · exact Or.inr ⟨j, by omega, h2⟩
  · rintro (g | ⟨j, h1, h2, h3, a, t', h4, h5, h6, h7⟩)
    · exact Or.inl g
    · by_cases e : j = k
      · subst e; exact absurd h7 (h h3 a t' h4 h5)
      · exact Or.inr ⟨j, by omega, h2, h3, a, t', h4, h5, h6, h7⟩
theorem isMin_add {D : Nat → Nat → Int32} {n b s k a t0 : Nat} {v w : Int32} (hb : b ≤ 12) (hk : k < n) (hbit : s.testBit k = true) (hD : D k b = nI a) (ha : a ≤ 63) (hb0 : Asg D n b (s ^^^ 2 ^ k) t0) (hb1 : ∀ t', Asg D n b (s ^^^ 2 ^ k) t' → t0 ≤ t') (h : isMin (AsgK D n b s k) v)
    (hw : (v < 0 ∧ w = nI (t0 + a)) ∨ (¬ v < 0 ∧ v ≤ nI (t0 + a) ∧ w = v) ∨ (¬ v < 0 ∧ ¬ v ≤ nI (t0 + a) ∧ w = nI (t0 + a))) : isMin (AsgK D n b s (k + 1)) w := by
  have ht0 := Asg_le b _ t0 hb0
  have hnew : AsgK D n b s (k + 1) (t0 + a) := Or.inr ⟨k, by omega, hk, hbit, a, t0, hD, ha, rfl, hb0⟩
  have hold : ∀ t, AsgK D n b s k t → AsgK D n b s (k + 1) t := fun t g => by
    rcases g with g | ⟨j, h1, h2⟩
    · exact Or.inl g
    · exact Or.inr ⟨j, by omega, h2⟩
  have hsp : ∀ t, AsgK D n b s (k + 1) t → AsgK D n b s k t ∨ t0 + a ≤ t := fun t g => by
    rcases g with g | ⟨j, h1, h2, h3, a', t', h4, h5, h6, h7⟩
    · exact Or.inl (Or.inl g)
    · by_cases e : j = k
      · subst e
        rw [hD, nI_eq (by omega) (by omega)] at h4
        have := hb1 t' h7
        right; omega
      · exact Or.inl (Or.inr ⟨j, by omega, h2, h3, a', t', h4, h5, h6, h7⟩)
  have hAle : ∀ t, AsgK D n b s k t → t ≤ 63 * b + 63 := fun t g => by
    rcases g with g | ⟨j, h1, h2, h3, a', t', h4, h5, h6, h7⟩
    · have := Asg_le b _ t g; omega
    · have := Asg_le b _ t' h7; omega
  rcases h with ⟨h1, h2⟩ | ⟨t, h1, h2, h3⟩
  · have hn : v < 0 := by rw [h1]; decide
    rcases hw with ⟨-, hw⟩ | ⟨q, -⟩ | ⟨q, -⟩
    · refine Or.inr ⟨t0 + a, hw, hnew, fun t' g => ?_⟩
      rcases hsp t' g with g | g
      · exact absurd g (h2 t')
      · exact g
    · exact absurd hn q
    · exact absurd hn q
  · have ht := hAle t h2
    have hn : ¬ v < 0 := by rw [h1]; exact nI_pos (by omega)
    rcases hw with ⟨q, -⟩ | ⟨-, q, hw⟩ | ⟨-, q, hw⟩
    · exact absurd q hn
    · rw [h1, nI_leI (by omega) (by omega)] at q
      refine Or.inr ⟨t, by rw [hw, h1], hold t h2, fun t' g => ?_⟩
      rcases hsp t' g with g | g
      · exact h3 t' g
      · omega
    · rw [h1, nI_leI (by omega) (by omega)] at q
      refine Or.inr ⟨t0 + a, hw, hnew, fun t' g => ?_⟩
      rcases hsp t' g with g | g
      · have := h3 t' g; omega
      · exact g
def leOK (D : Nat → Nat → Int32) (n b s : Nat) (le : Nat → Int32) : Prop := ∀ z, z < 2 ^ n → (z < s → isMin (Asg D n b z) (le z)) ∧ (s < z → isMin (Asg D n (b + 1) z) (le z))
theorem MO_bound_83_spec {fl gl bx : Int64} {w h t : Int32} {c s : Nat} {fa : Nat → Int32} {k76 : Int32 → (Nat → Int32) → (Nat → Int32) → Int32 → Int32 → Int32 → Prop} {post : Int32 → Int32 → (Nat → Int32) → (Nat → Int32) → Prop} (hbx : cnt bx ≤ 12) (hgl : cnt gl ≤ 12) (hc : c < 64) (hcb : tb bx c = true) (hs0 : 0 < s) (hs : s < 2 ^ cnt gl) (hfa : ∀ j, j < 64 → fa j = stP fl c j)
    (hk : ∀ le, leOK (Dm fl gl bx) (cnt gl) (cntN bx c) (s - 1) le → (isMin (Asg (Dm fl gl bx) (cnt gl) (cntN bx c) (s - 1)) (le (s - 1))) → k76 t fa le (nI (cnt gl)) (nI c) (nI (s - 1))) :
    ∀ n k le, k ≤ cnt gl → cnt gl - k < n → leOK (Dm fl gl bx) (cnt gl) (cntN bx c) s le → isMin (AsgK (Dm fl gl bx) (cnt gl) (cntN bx c) s k) (le s) → MO_bound_83 w h fl gl bx k76 post n t fa le (nI (cnt gl)) (nI c) (nI s) (nI k) := by
  intro n
  induction n with
  | zero => intro k le _ h; exact absurd h (Nat.not_lt_zero _)
  | succ n ih =>
    intro k le hkn hn hle hmin
    have hb := cnN_lt hc hcb
    have hs2 : s < 4096 := Nat.lt_of_lt_of_le hs (Nat.pow_le_pow_right (n := 2) (by decide) hgl)
    unfold MO_bound_83
    by_cases q : cnt gl ≤ k
    · rw [if_pos (nI_le q (by omega))]
      have ek : k = cnt gl := by omega
      subst ek
      rw [sb_m1 hs0]
      refine hk le (fun z hz => ⟨fun h1 => (hle z hz).1 (by omega), fun h1 => ?_⟩) ((hle (s - 1) (by omega)).1 (by omega))
      by_cases ez : z = s
      · rw [ez]; exact hmin.cg (fun t => AsgK_n)
      · exact (hle z hz).2 (by omega)
    · rw [if_neg (nI_ge (by omega) (by omega)), bit_at hs2 (by omega), one_shl (by omega), nI_xor]
      have next : ∀ le2, (∀ z, ¬ z = s → le2 z = le z) → isMin (AsgK (Dm fl gl bx) (cnt gl) (cntN bx c) s (k + 1)) (le2 s) → MO_bound_83 w h fl gl bx k76 post n t fa le2 (nI (cnt gl)) (nI c) (nI s) (nI k + 1) := fun le2 h1 h2 => by
        rw [nI_1]
        refine ih (k + 1) le2 (by omega) (by omega) (fun z hz => ?_) h2
        by_cases ez : z = s
        · exact ⟨fun h => by omega, fun h => by omega⟩
        · rw [h1 z ez]; exact hle z hz
      cases q2 : s.testBit k with
      | false =>
        rw [if_pos b01F]
        exact next le (fun _ _ => rfl) (hmin.cg (AsgK_skip (fun h => by rw [q2] at h; cases h)))
      | true =>
        rw [if_neg b01T]
        have hx := xor_lt q2
        refine ⟨vp_inN (by omega) (by decide), ?_⟩
        rw [nI_clamp (by omega)]
        rcases (hle (s ^^^ 2 ^ k) (by omega)).1 hx with ⟨g1, g2⟩ | ⟨t0, g1, g2, g3⟩
        · rw [g1, if_neg (by decide)]
          exact next le (fun _ _ => rfl) (hmin.cg (AsgK_skip (fun _ a t' _ _ h => g2 t' h)))
        · have ht0 := Asg_le _ _ _ g2
          rw [g1, if_pos (nI_pos' (by omega))]
          obtain ⟨gc, hgc⟩ := isNth_ex (x := gl) (k := k) 64 (show k < cnt gl by omega) (Nat.le_refl _)
          have hgc1 := hgc.1
          refine ⟨65, MO_goalAt_spec hgc ⟨vp_inN hgc.1 (by decide), fun v5 e5 => ?_⟩ 65 0 (Nat.zero_le _) (by decide)⟩
          rw [nI_clamp (by omega), hfa gc hgc.1] at e5
          have hD : Dm fl gl bx k (cntN bx c) = v5 := by
            show stP fl (nthF bx (cntN bx c)) (nthF gl k) = _
            rw [nthF_eq ⟨hc, hcb, rfl⟩, nthF_eq hgc, e5]
          rcases Dm_ok fl gl bx k (cntN bx c) with z | ⟨a, z1, z2⟩
          · rw [hD] at z
            rw [z, if_neg (by decide)]
            refine next le (fun _ _ => rfl) (hmin.cg (AsgK_skip (fun _ a t' h1 h2 => ?_)))
            rw [hD, z] at h1
            exact absurd h1 (nI_m1 (by omega))
          · rw [hD] at z2
            rw [z2, if_pos (nI_pos' (by omega)), nI_add]
            refine ⟨vp_inN (by omega) (by decide), fun v6 e6 => ⟨vp_inN (by omega) (by decide), ?_⟩⟩
            rw [nI_clamp (by omega), e6]
            have add : ∀ w', _ → isMin (AsgK (Dm fl gl bx) (cnt gl) (cntN bx c) s (k + 1)) w' := fun w' hw => isMin_add (w := w') (by omega) (by omega) q2 (hD.trans z2) z1 g2 g3 hmin hw
            by_cases n1 : le s < 0
            · rw [if_pos n1]
              refine ⟨vp_inN (by omega) (by decide), fun le2 el => ?_⟩
              rw [nI_clamp (by omega)] at el
              exact next le2 (fun z hz => by rw [el, upd_other _ _ hz]) (by rw [el, upd_same]; exact add _ (Or.inl ⟨n1, rfl⟩))
            · rw [if_neg n1]
              refine ⟨vp_inN (by omega) (by decide), ?_⟩
              by_cases n2 : le s ≤ nI (t0 + a)
              · rw [if_pos n2]
                refine ⟨vp_inN (by omega) (by decide), fun x ex => ⟨vp_inN (by omega) (by decide), fun le2 el => ?_⟩⟩
                exact next le2 (fun z hz => by rw [el, upd_other _ _ hz]) (by rw [el, upd_same]; exact add _ (Or.inr (Or.inl ⟨n1, n2, ex⟩)))
              · rw [if_neg n2]
                refine ⟨vp_inN (by omega) (by decide), fun le2 el => ?_⟩
                rw [nI_clamp (by omega)] at el
                exact next le2 (fun z hz => by rw [el, upd_other _ _ hz]) (by rw [el, upd_same]; exact add _ (Or.inr (Or.inr ⟨n1, n2, rfl⟩)))
theorem MO_bound_76_spec {fl gl bx : Int64} {w h t : Int32} {c : Nat} {fa : Nat → Int32} {k45 : Int32 → (Nat → Int32) → (Nat → Int32) → Int32 → Int32 → Prop} {post : Int32 → Int32 → (Nat → Int32) → (Nat → Int32) → Prop} (hbx : cnt bx ≤ 12) (hgl : cnt gl ≤ 12) (hc : c < 64) (hcb : tb bx c = true) (hfa : ∀ j, j < 64 → fa j = stP fl c j)
    (hk : ∀ le, (∀ z, z < 2 ^ cnt gl → isMin (Asg (Dm fl gl bx) (cnt gl) (cntN bx (c + 1)) z) (le z)) → k45 t fa le (nI (cnt gl)) (nI (c + 1))) :
    ∀ n s le, s < 2 ^ cnt gl → s < n → leOK (Dm fl gl bx) (cnt gl) (cntN bx c) s le → isMin (Asg (Dm fl gl bx) (cnt gl) (cntN bx c) s) (le s) → MO_bound_76 w h fl gl bx k45 post n t fa le (nI (cnt gl)) (nI c) (nI s) := by
  intro n
  induction n with
  | zero => intro s le _ h; exact absurd h (Nat.not_lt_zero _)
  | succ n ih =>
    intro s le hs hn hle hmin
    have hp : 2 ^ cnt gl ≤ 2 ^ 12 := Nat.pow_le_pow_right (by decide) hgl
    unfold MO_bound_76
    by_cases e : s = 0
    · subst e
      rw [if_pos (by decide), nI_1]
      refine hk le (fun z hz => ?_)
      rw [cntN_t hcb]
      by_cases ez : z = 0
      · subst ez
        refine hmin.cg (fun t => ⟨Or.inl, fun h => ?_⟩)
        rcases h with h | ⟨k, -, h, -⟩
        · exact h
        · rw [Nat.zero_testBit] at h; cases h
      · exact (hle z hz).2 (by omega)
    · rw [if_neg (nI_nle (by omega) (by omega))]
      exact ⟨cnt gl + 1, MO_bound_83_spec hbx hgl hc hcb (by omega) hs hfa (fun le2 h1 h2 => ih (s - 1) le2 (by omega) (by omega) h1 h2) (cnt gl + 1) 0 le (Nat.zero_le _) (by omega) hle (hmin.cg (fun t => AsgK_0.symm))⟩
theorem MO_bound_45_spec {fl gl bx : Int64} {W H : Nat} {t : Int32} {post : Int32 → Int32 → (Nat → Int32) → (Nat → Int32) → Prop} (hW : W ≤ 8) (hH : H ≤ 8) (hfl : onB W H fl) (hbx : cnt bx ≤ 12) (hgl : cnt gl ≤ 12)
    (hk : ∀ r fa le, isMin (Asg (Dm fl gl bx) (cnt gl) (cnt bx) (2 ^ cnt gl - 1)) r → post r t fa le) :
    ∀ n c fa le, c ≤ 64 → 64 - c < n → (∀ z, z < 2 ^ cnt gl → isMin (Asg (Dm fl gl bx) (cnt gl) (cntN bx c) z) (le z)) → MO_bound_45 (nI W) (nI H) fl gl bx post n t fa le (nI (cnt gl)) (nI c) := by
  intro n
  induction n with
  | zero => intro s fa le _ h; exact absurd h (Nat.not_lt_zero _)
  | succ n ih =>
    intro c fa le hc hn hle
    have hp : 2 ^ cnt gl ≤ 2 ^ 12 := Nat.pow_le_pow_right (by decide) hgl
    have hp0 : 0 < 2 ^ cnt gl := Nat.two_pow_pos _
    have e1 : (1 : Int32) <<< (nI (cnt gl) &&& 31) - (1 : Int32) = nI (2 ^ cnt gl - 1) := by rw [one_shl hgl, show (1 : Int32) = nI 1 from rfl, pk_sub (by omega)]
    unfold MO_bound_45
    by_cases q : 64 ≤ c
    · have e64 : c = 64 := by omega
      subst e64
      rw [if_pos (kL q (by omega)), e1]
      refine ⟨vp_inN (by omega) (by decide), ?_⟩
      rw [nI_clamp (by omega)]
      exact hk _ fa le (hle (2 ^ cnt gl - 1) (by omega))
    · rw [if_neg (kG (k := 64) (by omega) (by decide))]
      refine MO_has_spec (by omega) ?_
      cases q2 : tb bx c with
      | false =>
        rw [if_pos b01F, nI_1]
        exact ih (c + 1) fa le (by omega) (by omega) (by rw [cntN_f q2]; exact hle)
      | true =>
        rw [if_neg b01T]
        refine MO_measure_spec hW hH hfl (by omega) (fun fa2 hfa => ?_)
        intro v ev
        rw [ev, e1]
        exact ⟨2 ^ cnt gl, MO_bound_76_spec hbx hgl (by omega) q2 hfa (fun le2 h => ih (c + 1) fa2 le2 (by omega) (by omega) h) (2 ^ cnt gl) (2 ^ cnt gl - 1) le (by omega) (by omega) (fun z hz => ⟨fun _ => hle z hz, fun h => by omega⟩) (hle _ (by omega))⟩
theorem MO_bound_15_spec {fl gl bx : Int64} {w h t : Int32} {post : Int32 → Int32 → (Nat → Int32) → (Nat → Int32) → Prop} {fa : Nat → Int32} (hgl : cnt gl ≤ 12)
    (hk : ∀ le, (∀ z, z < 2 ^ cnt gl → isMin (Asg (Dm fl gl bx) (cnt gl) 0 z) (le z)) → ∃ n', MO_bound_45 w h fl gl bx post n' t fa le (nI (cnt gl)) 0) :
    ∀ n s le, s ≤ 2 ^ cnt gl → 2 ^ cnt gl - s < n → (∀ z, z < s → isMin (Asg (Dm fl gl bx) (cnt gl) 0 z) (le z)) → MO_bound_15 w h fl gl bx post n t fa le (nI (cnt gl)) (nI s) := by
  intro n
  induction n with
  | zero => intro s le _ h; exact absurd h (Nat.not_lt_zero _)
  | succ n ih =>
    intro s le hs hn hle
    have hp : 2 ^ cnt gl ≤ 2 ^ 12 := Nat.pow_le_pow_right (by decide) hgl
    unfold MO_bound_15
    rw [one_shl hgl]
    by_cases q : 2 ^ cnt gl ≤ s
    · rw [if_pos (nI_le q (by omega))]
      exact hk le (fun z hz => hle z (by omega))
    · rw [if_neg (nI_ge (by omega) (by omega))]
      have key : ∀ v : Int32, isMin (Asg (Dm fl gl bx) (cnt gl) 0 s) v → ∀ le2 : Nat → Int32, le2 = upd le (nI s).toNatClampNeg v → MO_bound_15 w h fl gl bx post n t fa le2 (nI (cnt gl)) (nI s + 1) := fun v hv le2 el => by
        rw [nI_clamp (by omega)] at el
        rw [nI_1]
        refine ih (s + 1) le2 (by omega) (by omega) (fun z hz => ?_)
        rw [el]
        by_cases ez : z = s
        · rw [ez, upd_same]; exact hv
        · rw [upd_other _ _ ez]; exact hle z (by omega)
      by_cases e : s = 0
      · subst e
        rw [if_pos (by decide)]
        exact ⟨vp_inN (k := 0) (by decide) (by decide), key 0 (Or.inr ⟨0, rfl, ⟨rfl, rfl⟩, fun _ _ => Nat.zero_le _⟩)⟩
      · rw [if_neg (nI_ne0 (by omega) (by omega))]
        exact ⟨vp_inN (by omega) (by decide), key (-1) (Or.inl ⟨rfl, fun t h => e h.1⟩)⟩
theorem MO_bound_spec {fl gl bx : Int64} {W H : Nat} {t : Int32} {post : Int32 → Int32 → (Nat → Int32) → (Nat → Int32) → Prop} {fa le : Nat → Int32} (hW : W ≤ 8) (hH : H ≤ 8) (hfl : onB W H fl) (hbx : cnt bx ≤ 12) (hgl : cnt gl ≤ 12)
    (hk : ∀ r fa le, isMin (Asg (Dm fl gl bx) (cnt gl) (cnt bx) (2 ^ cnt gl - 1)) r → post r 0 fa le) : MO_bound (nI W) (nI H) fl gl bx t fa le post :=
  MO_countOf_spec ⟨2 ^ cnt gl + 1, MO_bound_15_spec hgl (fun le h => ⟨65, MO_bound_45_spec hW hH hfl hbx hgl hk 65 0 fa le (by decide) (by decide) h⟩) (2 ^ cnt gl + 1) 0 le (Nat.zero_le _) (Nat.lt_succ_of_le (Nat.sub_le _ _)) (fun z h => absurd h (Nat.not_lt_zero _))⟩
