/-! a box's steps -/
def Epw (fl : Int64) (w i j : Nat) : Prop := nb w i = some j ∧ tb fl j = true ∧ (nb (opp w) i).any (fun k => tb fl k) = true
def Ep (fl : Int64) (i j : Nat) : Prop := ∃ w, w < 4 ∧ Epw fl w i j
def acP (fl X : Int64) : Nat → Int64
  | 0 => 0
  | w + 1 => acP fl X w ||| sh (X &&& sh fl w) w
theorem tb_acP {fl X : Int64} {j : Nat} (hj : j < 64) : ∀ w, w ≤ 4 → (tb (acP fl X w) j = true ↔ ∃ v, v < w ∧ ∃ i, i < 64 ∧ nb v i = some j ∧ tb X i = true ∧ (nb (opp v) i).any (fun k => tb fl k) = true) := by
  intro w
  induction w with
  | zero => intro _; show tb 0 j = true ↔ _; rw [tb_zero]; exact ⟨fun h => Bool.noConfusion h, fun ⟨v, h, _⟩ => absurd h (Nat.not_lt_zero _)⟩
  | succ w ih =>
    intro hw
    show tb (acP fl X w ||| sh (X &&& sh fl w) w) j = true ↔ _
    rw [tb_or, Bool.or_eq_true, ih (by omega), tb_sh_iff (by omega) hj]
    constructor
    · rintro (⟨v, hv, r⟩ | ⟨i, hi, h1, h2⟩)
      · exact ⟨v, by omega, r⟩
      · rw [tb_and, tb_sh (by omega) hi, Bool.and_eq_true] at h2
        exact ⟨w, by omega, i, hi, h1, h2.1, h2.2⟩
    · rintro ⟨v, hv, i, hi, h1, h2, h3⟩
      by_cases e : v = w
      · subst e
        exact Or.inr ⟨i, hi, h1, by rw [tb_and, tb_sh (by omega) hi, h2, h3]; rfl⟩
      · exact Or.inl ⟨v, by omega, i, hi, h1, h2, h3⟩
def advP (fl X : Int64) : Int64 := acP fl X 4 &&& fl
theorem tb_advP {fl X : Int64} {j : Nat} (hj : j < 64) : tb (advP fl X) j = true ↔ ∃ i, i < 64 ∧ tb X i = true ∧ Ep fl i j := by
  unfold advP
  rw [tb_and, Bool.and_eq_true, tb_acP hj 4 (Nat.le_refl _)]
  constructor
  · rintro ⟨⟨v, hv, i, hi, h1, h2, h3⟩, h4⟩; exact ⟨i, hi, h2, v, hv, h1, h4, h3⟩
  · rintro ⟨i, hi, h2, v, hv, h1, h4, h3⟩; exact ⟨⟨v, hv, i, hi, h1, h2, h3⟩, h4⟩
theorem advP_0 (fl : Int64) : advP fl 0 = 0 := adv_zero (E := Ep fl) fun X j hj => tb_advP hj
def VP (fl : Int64) (s : Nat) : Nat → Int64 := lev (advP fl) (bit s &&& fl)
def stP (fl : Int64) (s c : Nat) : Int32 := dv (VP fl s) 63 c
theorem VP_sub (fl : Int64) (s n : Nat) : sub (VP fl s n) (VP fl s (n + 1)) := lev_sub _ _ n
/-- what was there before a round -/
def VB (fl : Int64) (s : Nat) : Nat → Int64
  | 0 => 0
  | n + 1 => VP fl s n
theorem VB_sub (fl : Int64) (s n : Nat) : sub (VB fl s n) (VP fl s n) := by
  cases n with
  | zero => intro i _ h; rw [show VB fl s 0 = 0 from rfl, tb_zero] at h; cases h
  | succ n => exact VP_sub fl s n
theorem VB_none {fl : Int64} {s n j : Nat} (hj : j < 64) (h : tb (VB fl s n) j = false) : ∀ k, k < n → tb (VP fl s k) j = false := fun k hk => by
  cases n with
  | zero => exact absurd hk (Nat.not_lt_zero _)
  | succ n =>
    cases e : tb (VP fl s k) j with
    | false => rfl
    | true =>
      have h : tb (VP fl s n) j = false := h
      have g : tb (VP fl s n) j = true := lev_mono (show k ≤ n by omega) j hj e
      rw [h] at g
      cases g
theorem tb_pred {x : Int64} {i : Nat} (hi : i < 64) : tb (x - 1) i = !(tb x i ^^ decide (∃ j, j < i ∧ tb x j = true)) := by
  have e : x - 1 = (-x) ^^^ (-1) := Int64.toBitVec_inj.mp (by
    rw [Int64.toBitVec_sub, Int64.toBitVec_xor, Int64.toBitVec_neg]
    show x.toBitVec - 1#64 = -x.toBitVec ^^^ BitVec.allOnes 64
    rw [BitVec.xor_allOnes, BitVec.not_neg])
  rw [e, tb_not hi, tb_neg]
  simp [hi]
theorem low_clr {x : Int64} {k : Nat} (h : isLow x k) : x &&& (x - 1) = x &&& (bit k ^^^ (-1)) := tb_ext fun i hi => by
  rw [tb_and, tb_pred hi, tb_clr h.1]
  by_cases e : i = k
  · subst e
    have : ¬ ∃ j, j < i ∧ tb x j = true := fun ⟨j, hj, q⟩ => by rw [h.2.2 j hj] at q; cases q
    rw [h.2.1]
    simp [this]
  · by_cases q : i < k
    · rw [h.2.2 i q]; rfl
    · have : ∃ j, j < i ∧ tb x j = true := ⟨k, by omega, h.2.1⟩
      cases f : tb x i <;> simp [e, this]
theorem cnt_clr {x : Int64} {k : Nat} (h : tb x k = true) : cnt (x &&& (bit k ^^^ (-1))) < cnt x := by
  have hk := tb_lt h
  refine sub.lt (fun i _ e => ?_) (fun e => ?_)
  · rw [tb_clr hk, Bool.and_eq_true] at e; exact e.1
  · have : tb (x &&& (bit k ^^^ (-1))) k = true := by rw [← e]; exact h
    rw [tb_clr hk] at this
    simp at this
theorem BO_fill_94 {fl come wave : Int64} {k21 : (Nat → Int32) → Int64 → Int64 → Int32 → Prop} {post : (Nat → Int32) → Prop} {r : Int32} {f : Nat → Int32} (h : k21 f come (advP fl wave &&& (come ^^^ (-1))) (r + 1)) :
    ∀ n w, w ≤ 4 → 4 - w < n → BO_fillBoxSteps_94 fl k21 post n f come wave r (acP fl wave w) (nI w) := by
  intro n
  induction n with
  | zero => intro w _ h; exact absurd h (Nat.not_lt_zero _)
  | succ n ih =>
    intro w hw hn
    unfold BO_fillBoxSteps_94
    by_cases q : 4 ≤ w
    · rw [if_pos (kL q (by omega))]
      intro z ez
      rw [show w = 4 by omega] at ez
      rw [ez]
      exact h
    · rw [if_neg (kG (k := 4) (by omega) (by decide))]
      refine PB_shifted_spec (by omega) (PB_shifted_spec (by omega) ?_)
      intro z ez
      rw [nI_1, ez]
      exact ih (w + 1) (by omega) (by omega)
theorem BO_fill_42 {fl come wave : Int64} {k21 : (Nat → Int32) → Int64 → Int64 → Int32 → Prop} {post : (Nat → Int32) → Prop} {r : Int32} {f0 : Nat → Int32}
    (h : ∀ f, (∀ j, j < 64 → f j = if tb wave j = true then r else f0 j) → k21 f (come ||| wave) (advP fl wave &&& ((come ||| wave) ^^^ (-1))) (r + 1)) :
    ∀ n f rest t, cnt rest + t ≤ 64 → 64 - t < n → (∀ j, j < 64 → f j = if tb wave j = true ∧ tb rest j = false then r else f0 j) → sub rest wave → BO_fillBoxSteps_42 fl k21 post n f come wave r rest (nI t) := by
  intro n
  induction n with
  | zero => intro f rest t _ h; exact absurd h (Nat.not_lt_zero _)
  | succ n ih =>
    intro f rest t ht hn hf hsub
    unfold BO_fillBoxSteps_42
    have fin : rest = 0 → BO_fillBoxSteps_83 fl k21 post f come wave r := fun e => by
      intro z ez
      rw [ez]
      refine ⟨5, BO_fill_94 (h f (fun j hj => ?_)) 5 0 (by decide) (by decide)⟩
      rw [hf j hj, e, tb_zero]
      simp
    by_cases q : 64 ≤ t
    · rw [if_pos (kL q (by omega))]
      refine fin (Classical.byContradiction fun e => ?_)
      have := cnt_pos e
      omega
    · rw [if_neg (kG (k := 64) (by omega) (by decide))]
      by_cases e : rest = 0
      · rw [if_pos e]; exact fin e
      · rw [if_neg e]
        obtain ⟨k, hk⟩ := low_ex e
        have hk64 := hk.1
        refine PB_spotOf_spec hk ⟨vp_inN hk.1 (by decide), ?_⟩
        intro g eg z ez
        rw [nI_clamp (by omega)] at eg
        rw [low_clr hk] at ez
        rw [nI_1, ez]
        have hcl := cnt_clr hk.2.1
        refine ih g _ (t + 1) (by omega) (by omega) (fun j hj => ?_) (fun i hi q => ?_)
        · rw [eg, tb_clr hk.1]
          by_cases ej : j = k
          · subst ej
            rw [upd_same, if_pos ⟨hsub j hj hk.2.1, by simp⟩]
          · rw [upd_other _ _ ej, hf j hj]
            simp [ej]
        · rw [tb_clr hk.1, Bool.and_eq_true] at q
          exact hsub i hi q.1
theorem VP_stop {fl : Int64} {s r : Nat} (h : ∀ j, j < 64 → tb (VP fl s r) j = true → tb (VB fl s r) j = true) : ∀ d, VP fl s (r + d) = VP fl s r := by
  cases r with
  | zero =>
    have e : VP fl s 0 = 0 := tb_eq0 fun j hj => by
      cases e : tb (VP fl s 0) j with
      | false => rfl
      | true => have := h j hj e; rw [show VB fl s 0 = 0 from rfl, tb_zero] at this; cases this
    refine fun d => lev_st ?_ d
    show VP fl s 0 ||| advP fl (VP fl s 0) = VP fl s 0
    rw [e, advP_0]; rfl
  | succ r =>
    have e : VP fl s (r + 1) = VP fl s r := sub.eq h (VP_sub fl s r)
    intro d
    have h1 := lev_st e (d + 1)
    have h2 : VP fl s (r + 1) = VP fl s r := e
    rw [show r + 1 + d = r + (d + 1) by omega, h2]
    exact h1
theorem VP_wave {fl : Int64} {s r : Nat} {wave : Int64} (h : ∀ j, j < 64 → tb wave j = (tb (VP fl s r) j && !tb (VB fl s r) j)) : ∀ j, j < 64 → tb (advP fl wave &&& (VP fl s r ^^^ (-1))) j = (tb (VP fl s (r + 1)) j && !tb (VP fl s r) j) := fun j hj => by
  have ha : ∀ X j, j < 64 → (tb (advP fl X) j = true ↔ ∃ i, i < 64 ∧ tb X i = true ∧ Ep fl i j) := fun X j hj => tb_advP hj
  rw [tb_diff]
  cases e : tb (VP fl s r) j with
  | true => simp
  | false =>
    have h1 : tb (VP fl s (r + 1)) j = true ↔ _ := lev_in (S := bit s &&& fl) ha (n := r) hj
    have : tb (advP fl wave) j = true ↔ tb (VP fl s (r + 1)) j = true := by
      rw [h1, tb_advP hj]
      constructor
      · rintro ⟨i, hi, h2, h3⟩
        rw [h i hi, Bool.and_eq_true] at h2
        exact Or.inr ⟨i, hi, h2.1, h3⟩
      · rintro (g | ⟨i, hi, h2, h3⟩)
        · have : tb (VP fl s r) j = true := g
          rw [e] at this; cases this
        · refine ⟨i, hi, ?_, h3⟩
          have h4 := lev_from (S := bit s &&& fl) ha hi hj (n := r) e h2 h3
          have h2 : tb (VP fl s r) i = true := h2
          rw [h i hi, h2]
          cases r with
          | zero => show (true && !tb (0 : Int64) i) = true; rw [tb_zero]; rfl
          | succ r =>
            have h5 : tb (VP fl s r) i = false := h4 r (by omega)
            show (true && !tb (VP fl s r) i) = true
            rw [h5]; rfl
    cases e2 : tb (VP fl s (r + 1)) j with
    | true => rw [this.mpr e2]
    | false =>
      cases e3 : tb (advP fl wave) j with
      | false => rfl
      | true => rw [this.mp e3] at e2; cases e2
theorem BO_fill_21 {fl : Int64} {s : Nat} {post : (Nat → Int32) → Prop} (hp : ∀ f, (∀ j, j < 64 → f j = stP fl s j) → post f) :
    ∀ n r f wave, r ≤ 64 → 64 - r < n → (∀ j, j < 64 → tb wave j = (tb (VP fl s r) j && !tb (VB fl s r) j)) → (∀ j, j < 64 → f j = if tb (VB fl s r) j = true then dv (VP fl s) r j else -1) → BO_fillBoxSteps_21 fl post n f (VB fl s r) wave (nI r) := by
  intro n
  induction n with
  | zero => intro r f wave _ h; exact absurd h (Nat.not_lt_zero _)
  | succ n ih =>
    intro r f wave hr hn hw hf
    have hV := VP_sub fl s
    unfold BO_fillBoxSteps_21
    by_cases q : 64 ≤ r
    · rw [if_pos (kL q (by omega))]
      have hr64 : r = 64 := by omega
      subst hr64
      refine hp f (fun j hj => ?_)
      rw [hf j hj]
      show (if tb (VP fl s 63) j = true then dv (VP fl s) (63 + 1) j else -1) = dv (VP fl s) 63 j
      cases e : tb (VP fl s 63) j with
      | true => rw [if_pos rfl, dv_old e]
      | false => rw [if_neg (by decide), dv_out hV hj e]
    · rw [if_neg (kG (k := 64) (by omega) (by decide))]
      by_cases e : wave = 0
      · rw [if_pos e]
        have hst : ∀ j, j < 64 → tb (VP fl s r) j = true → tb (VB fl s r) j = true := fun j hj h => by
          have := hw j hj
          rw [e, tb_zero, h] at this
          cases f : tb (VB fl s r) j with
          | true => rfl
          | false => rw [f] at this; cases this
        have hs := VP_stop hst (63 - r)
        refine hp f (fun j hj => ?_)
        rw [hf j hj]
        show _ = dv (VP fl s) 63 j
        cases e2 : tb (VP fl s r) j with
        | true =>
          rw [if_pos (hst j hj e2)]
          have := (dv_up hV hj e2 (63 - r)).1
          rw [show r + (63 - r) = 63 by omega] at this
          exact this.symm
        | false =>
          rw [show r + (63 - r) = 63 by omega] at hs
          have e9 : tb (VP fl s 63) j = false := by rw [hs]; exact e2
          rw [if_neg (fun h => by rw [VB_sub fl s r j hj h] at e2; cases e2)]
          exact (dv_out hV hj e9).symm
      · rw [if_neg e]
        have hcome : VB fl s r ||| wave = VP fl s r := tb_ext fun j hj => by
          rw [tb_or, hw j hj]
          cases e1 : tb (VB fl s r) j with
          | true => rw [VB_sub fl s r j hj e1]; rfl
          | false => simp
        refine ⟨65, BO_fill_42 (fun g hg => ?_) 65 f wave 0 (by have := cnt_le wave; omega) (by decide) (fun j hj => by rw [if_neg]; intro h; rw [h.1] at h; cases h.2) (sub.rf _)⟩
        rw [hcome, nI_1]
        refine ih (r + 1) g _ (by omega) (by omega) (VP_wave hw) (fun j hj => ?_)
        show _ = if tb (VP fl s r) j = true then dv (VP fl s) (r + 1) j else -1
        rw [hg j hj, hf j hj, hw j hj]
        cases e1 : tb (VP fl s r) j with
        | false =>
          cases e2 : tb (VB fl s r) j with
          | false => rfl
          | true => rw [VB_sub fl s r j hj e2] at e1; cases e1
        | true =>
          rw [if_pos rfl, dv_old e1]
          cases e2 : tb (VB fl s r) j with
          | true => rfl
          | false => exact (dv_is hV hj e1 (VB_none hj e2) (Nat.le_refl _)).symm
theorem BO_fillBoxSteps_spec {fl : Int64} {s : Nat} {f : Nat → Int32} {post : (Nat → Int32) → Prop} (hp : ∀ f, (∀ j, j < 64 → f j = stP fl s j) → post f) : BO_fillBoxSteps fl f (bit s) post := by
  intro g eg w ew
  refine ⟨65, BO_fill_21 hp 65 0 g w (by decide) (by decide) (fun j hj => ?_) (fun j hj => ?_)⟩
  · rw [ew]
    show tb (bit s &&& fl) j = (tb (bit s &&& fl) j && !tb (0 : Int64) j)
    rw [tb_zero]; simp
  · rw [eg]
    show _ = if tb (0 : Int64) j = true then _ else _
    rw [tb_zero, if_neg (by decide)]
    exact if_pos hj
/-! the reference's measure -/
def mInv (fl : Int64) (s r c w : Nat) (f : Nat → Int32) : Prop := ∀ j, j < 64 → (tb (VP fl s r) j = true → f j = dv (VP fl s) r j) ∧ (tb (VP fl s r) j = false → (f j = nI (r + 1) ∧ tb (VP fl s (r + 1)) j = true) ∨ (f j = -1 ∧ (∀ i, i < c → tb (VP fl s r) i = true → ¬ Ep fl i j) ∧ ∀ v, v < w → ¬ Epw fl v c j))
theorem MO_measure_73_spec {W H s r c : Nat} {fl : Int64} {k51 : (Nat → Int32) → Int32 → Int32 → Prop} {post : (Nat → Int32) → Prop} (hW : W ≤ 8) (hH : H ≤ 8) (hr : r < 64) (hc : c < 64) (hfl : onB W H fl) (hcv : tb (VP fl s r) c = true)
    (hk : ∀ g, mInv fl s r c 4 g → k51 g (nI r) (nI (c + 1))) :
    ∀ n w f, w ≤ 4 → 4 - w < n → mInv fl s r c w f → MO_measure_73 (nI W) (nI H) fl k51 post n f (nI r) (nI c) (nI w) := by
  intro n
  induction n with
  | zero => intro w f _ h; exact absurd h (Nat.not_lt_zero _)
  | succ n ih =>
    intro w f hw hn hf
    unfold MO_measure_73
    by_cases q : 4 ≤ w
    · rw [if_pos (kL q (by omega)), nI_1]
      have hw4 : w = 4 := by omega
      subst hw4
      exact hk f hf
    · have hw4 : w < 4 := by omega
      rw [if_neg (kG (k := 4) (by omega) (by decide))]
      have skip : (∀ j, j < 64 → f j = -1 → ¬ Epw fl w c j) → MO_measure_73 (nI W) (nI H) fl k51 post n f (nI r) (nI c) (nI w + 1) := fun hx => by
        rw [nI_1]
        refine ih (w + 1) f (by omega) (by omega) (fun j hj => ⟨(hf j hj).1, fun h => ?_⟩)
        rcases (hf j hj).2 h with g | ⟨g1, g2, g3⟩
        · exact Or.inl g
        · refine Or.inr ⟨g1, g2, fun v hv => ?_⟩
          by_cases e : v = w
          · rw [e]; exact hx j hj g1
          · exact g3 v (by omega)
      refine MO_beside_c hW hH hc hw4 (fun j e hj hb => ?_) (fun hno => ?_)
      · refine MO_has_spec hj ?_
        cases e1 : tb fl j with
        | false => rw [if_pos b01F]; exact skip (fun j' _ _ h => by have h1 := h.1; rw [e] at h1; cases h1; have := h.2.1; rw [e1] at this; cases this)
        | true =>
          rw [if_neg b01T]
          refine ⟨vp_inN hj (by decide), ?_⟩
          rw [nI_clamp (by omega)]
          by_cases hq : 0 ≤ f j
          · rw [if_pos hq]
            refine skip (fun j' _ hm h => ?_)
            have h1 := h.1
            rw [e] at h1
            cases h1
            rw [hm] at hq
            exact absurd hq (by decide)
          · rw [if_neg hq]
            have hjr : tb (VP fl s r) j = false := by
              cases e2 : tb (VP fl s r) j with
              | false => rfl
              | true =>
                obtain ⟨m, hm, h1, -, -⟩ := dv_nat (VP_sub fl s) hj r e2
                rw [(hf j hj).1 e2, h1] at hq
                exact absurd (nI_pos' (by omega)) hq
            refine MO_against_spec hw4 (MO_beside_spec hW hH hc (opp_lt w) (has_bes hc (opp_lt w) hfl ?_))
            cases e3 : (nb (opp w) c).any (fun k => tb fl k) with
            | false => rw [if_pos b01F]; exact skip (fun j' _ _ h => by have := h.2.2; rw [e3] at this; cases this)
            | true =>
              rw [if_neg b01T]
              intro x ex
              refine ⟨vp_inN hj (by decide), fun g eg => ?_⟩
              rw [ex, nI_1] at eg
              rw [nI_1]
              have hin : tb (VP fl s (r + 1)) j = true := (lev_in (S := bit s &&& fl) (E := Ep fl) (fun X j hj => tb_advP hj) (n := r) hj).mpr (Or.inr ⟨c, hc, hcv, w, hw4, e, e1, e3⟩)
              refine ih (w + 1) g (by omega) (by omega) (fun i hi => ?_)
              by_cases ei : i = j
              · subst ei
                exact ⟨fun h => Bool.noConfusion (hjr.symm.trans h), fun _ => Or.inl ⟨by rw [eg, upd_same], hin⟩⟩
              · rw [eg, upd_other _ _ ei]
                refine ⟨(hf i hi).1, fun h => ?_⟩
                rcases (hf i hi).2 h with g | ⟨g1, g2, g3⟩
                · exact Or.inl g
                · refine Or.inr ⟨g1, g2, fun v hv h9 => ?_⟩
                  by_cases ev : v = w
                  · rw [ev] at h9
                    have := h9.1
                    rw [e] at this
                    cases this
                    exact ei rfl
                  · exact g3 v (by omega) h9
      · refine MO_has_neg ?_
        rw [if_pos rfl]
        exact skip (fun j hj _ h => hno j h.1 (hfl j hj h.2.1))
theorem MO_measure_51_spec {W H s r : Nat} {fl : Int64} {k43 : (Nat → Int32) → Int32 → Prop} {post : (Nat → Int32) → Prop} (hW : W ≤ 8) (hH : H ≤ 8) (hr : r < 64) (hfl : onB W H fl)
    (hk : ∀ g, mInv fl s r 64 0 g → k43 g (nI (r + 1))) :
    ∀ n c f, c ≤ 64 → 64 - c < n → mInv fl s r c 0 f → MO_measure_51 (nI W) (nI H) fl k43 post n f (nI r) (nI c) := by
  intro n
  induction n with
  | zero => intro w f _ h; exact absurd h (Nat.not_lt_zero _)
  | succ n ih =>
    intro c f hc hn hf
    unfold MO_measure_51
    by_cases q : 64 ≤ c
    · have hc64 : c = 64 := by omega
      subst hc64
      rw [if_pos (kL q (by omega)), nI_1]
      exact hk f hf
    · have hc4 : c < 64 := by omega
      rw [if_neg (kG (k := 64) (by omega) (by decide))]
      refine ⟨vp_inN hc4 (by decide), ?_⟩
      rw [nI_clamp (by omega)]
      by_cases e : f c = nI r
      · rw [if_pos e]
        have hcv : tb (VP fl s r) c = true := by
          cases h : tb (VP fl s r) c with
          | true => rfl
          | false =>
            rcases (hf c hc4).2 h with g | g
            · rw [g.1, nI_eq (by omega) (by omega)] at e; omega
            · rw [g.1] at e; exact absurd e (nI_m1 (by omega))
        refine ⟨5, MO_measure_73_spec hW hH hr hc4 hfl hcv (fun g hg => ih (c + 1) g (by omega) (by omega) (fun j hj => ⟨(hg j hj).1, fun h => ?_⟩)) 5 0 f (by decide) (by decide) hf⟩
        rcases (hg j hj).2 h with a | ⟨a1, a2, a3⟩
        · exact Or.inl a
        · refine Or.inr ⟨a1, fun i hi h1 h2 => ?_, fun v hv => absurd hv (Nat.not_lt_zero _)⟩
          by_cases ei : i = c
          · subst ei
            obtain ⟨v, hv, h3⟩ := h2
            exact a3 v hv h3
          · exact a2 i (by omega) h1 h2
      · rw [if_neg e, nI_1]
        refine ih (c + 1) f (by omega) (by omega) (fun j hj => ⟨(hf j hj).1, fun h => ?_⟩)
        rcases (hf j hj).2 h with a | ⟨a1, a2, a3⟩
        · exact Or.inl a
        · refine Or.inr ⟨a1, fun i hi h1 h2 => ?_, fun v hv => absurd hv (Nat.not_lt_zero _)⟩
          by_cases ei : i = c
          · subst ei
            have h4 := lev_from (S := bit s &&& fl) (E := Ep fl) (fun X j hj => tb_advP hj) hc4 hj (n := r) h h1 h2
            exact e (by rw [(hf i hc4).1 h1]; exact dv_is (VP_sub fl s) hc4 h1 h4 (Nat.le_refl _))
          · exact a2 i (by omega) h1 h2
theorem MO_measure_43_spec {W H s : Nat} {fl : Int64} {post : (Nat → Int32) → Prop} (hW : W ≤ 8) (hH : H ≤ 8) (hfl : onB W H fl) (hp : ∀ f, (∀ j, j < 64 → f j = stP fl s j) → post f) :
    ∀ n r f, r ≤ 64 → 64 - r < n → (∀ j, j < 64 → f j = dv (VP fl s) r j) → MO_measure_43 (nI W) (nI H) fl post n f (nI r) := by
  intro n
  induction n with
  | zero => intro w f _ h; exact absurd h (Nat.not_lt_zero _)
  | succ n ih =>
    intro r f hr hn hf
    have hV := VP_sub fl s
    unfold MO_measure_43
    by_cases q : 64 ≤ r
    · have hr64 : r = 64 := by omega
      subst hr64
      rw [if_pos (kL q (by omega))]
      refine hp f (fun j hj => ?_)
      rw [hf j hj]
      exact dv_stay hV (lev_63 (advP_0 _)) hj
    · rw [if_neg (kG (k := 64) (by omega) (by decide))]
      refine ⟨65, MO_measure_51_spec (s := s) hW hH (by omega) hfl (fun g hg => ih (r + 1) g (by omega) (by omega) (fun j hj => ?_)) 65 0 f (by decide) (by decide) (fun j hj => ⟨fun _ => hf j hj, fun h => Or.inr ⟨by rw [hf j hj, dv_out hV hj h], fun i hi => absurd hi (Nat.not_lt_zero _), fun v hv => absurd hv (Nat.not_lt_zero _)⟩⟩)⟩
      cases e : tb (VP fl s r) j with
      | true => rw [(hg j hj).1 e, dv_old e]
      | false =>
        rcases (hg j hj).2 e with a | ⟨a1, a2, -⟩
        · rw [a.1, dv_new e a.2]
        · rw [a1]
          symm
          refine dv_out hV hj ?_
          cases e2 : tb (VP fl s (r + 1)) j with
          | false => rfl
          | true =>
            rcases (lev_in (S := bit s &&& fl) (E := Ep fl) (fun X j hj => tb_advP hj) (n := r) hj).mp e2 with g | ⟨i, hi, h1, h2⟩
            · have g : tb (VP fl s r) j = true := g
              rw [e] at g; cases g
            · exact absurd h2 (a2 i hi h1)
theorem MO_measure_2_spec {W H s : Nat} {fl : Int64} {post : (Nat → Int32) → Prop} (hs : s < 64) (hp : ∀ f, (∀ j, j < 64 → f j = dv (VP fl s) 0 j) → ∃ n', MO_measure_43 (nI W) (nI H) fl post n' f 0) :
    ∀ n c f, c ≤ 64 → 64 - c < n → (∀ j, j < c → f j = dv (VP fl s) 0 j) → MO_measure_2 (nI W) (nI H) fl post n f (nI s) (nI c) := by
  intro n
  induction n with
  | zero => intro w f _ h; exact absurd h (Nat.not_lt_zero _)
  | succ n ih =>
    intro c f hc hn hf
    unfold MO_measure_2
    by_cases q : 64 ≤ c
    · rw [if_pos (kL q (by omega))]
      exact hp f (fun j hj => hf j (by omega))
    · have hc4 : c < 64 := by omega
      rw [if_neg (kG (k := 64) (by omega) (by decide))]
      have e0 : dv (VP fl s) 0 c = if c = s ∧ tb fl c = true then 0 else -1 := by
        show (if tb (bit s &&& fl) c = true then 0 else -1) = _
        rw [tb_and, tb_bit hs]
        by_cases e : c = s <;> simp [e]
      have key : ∀ v : Int32, v = dv (VP fl s) 0 c → ∀ g : Nat → Int32, g = upd f (nI c).toNatClampNeg v → MO_measure_2 (nI W) (nI H) fl post n g (nI s) (nI c + 1) := fun v ev g eg => by
        rw [nI_1]
        refine ih (c + 1) g (by omega) (by omega) (fun j hj => ?_)
        rw [nI_clamp (by omega)] at eg
        by_cases e : j = c
        · rw [eg, e, upd_same, ev]
        · rw [eg, upd_other _ _ e]; exact hf j (by omega)
      by_cases e : c = s
      · rw [if_pos (by rw [e])]
        refine MO_has_spec hc4 ?_
        cases e1 : tb fl c with
        | false =>
          rw [if_pos b01F]
          exact ⟨vp_inN hc4 (by decide), key (-1) (by rw [e0, if_neg]; rintro ⟨-, h⟩; rw [e1] at h; cases h)⟩
        | true =>
          rw [if_neg b01T]
          exact ⟨vp_inN hc4 (by decide), key 0 (by rw [e0, if_pos ⟨e, e1⟩])⟩
      · rw [if_neg (fun h => e ((nI_eq (by omega) (by omega)).mp h))]
        exact ⟨vp_inN hc4 (by decide), key (-1) (by rw [e0, if_neg]; rintro ⟨h, -⟩; exact e h)⟩
theorem MO_measure_spec {W H s : Nat} {fl : Int64} {f : Nat → Int32} {post : (Nat → Int32) → Prop} (hW : W ≤ 8) (hH : H ≤ 8) (hfl : onB W H fl) (hs : s < 64) (hp : ∀ f, (∀ j, j < 64 → f j = stP fl s j) → post f) : MO_measure (nI W) (nI H) fl f (nI s) post :=
  ⟨65, MO_measure_2_spec hs (fun g hg => ⟨65, MO_measure_43_spec hW hH hfl hp 65 0 g (by decide) (by decide) hg⟩) 65 0 f (by decide) (by decide) (fun j hj => absurd hj (Nat.not_lt_zero _))⟩
theorem PB_pushes_spec {W H x y x2 y2 : Nat} {fl : Int64} {f : Nat → Int32} (hW : W ≤ 8) (hH : H ≤ 8) (hx : x < W) (hy : y < H) (hx2 : x2 < W) (hy2 : y2 < H) {post : Int32 → (Nat → Int32) → Prop} {px : Int32 → (Nat → Int32) → Prop} (h : ∀ g, post (stP fl (8 * y + x) (8 * y2 + x2)) g) : PB_pushes (nI W) (nI H) fl f (nI x) (nI y) (nI x2) (nI y2) post px := by
  refine PB_existing_spec hW hH hx hy (PB_existing_spec hW hH hx2 hy2 (BO_fillBoxSteps_spec (fun g hg => PB_spotOf_spec (low_bit (by omega)) ⟨vp_inN (by omega) (by decide), ?_⟩)))
  rw [nI_clamp (by omega), hg _ (by omega)]
  exact h g
theorem MO_pushes_spec {W H x y x2 y2 : Nat} {fl : Int64} {t : Int32} {f : Nat → Int32} (hW : W ≤ 8) (hH : H ≤ 8) (hfl : onB W H fl) (hx : x < W) (hy : y < H) (hx2 : x2 < W) (hy2 : y2 < H) {post : Int32 → Int32 → (Nat → Int32) → Prop} (h : ∀ g, post (stP fl (8 * y + x) (8 * y2 + x2)) 0 g) : MO_pushes (nI W) (nI H) fl t f (nI x) (nI y) (nI x2) (nI y2) post := by
  refine MO_isCell_spec hW hH hx hy ?_
  rw [if_neg (by decide)]
  refine MO_isCell_spec hW hH hx2 hy2 ?_
  rw [if_neg (by decide)]
  show MO_throwsIf _ _ _ _
  unfold MO_throwsIf
  rw [if_pos (by decide)]
  refine ⟨Or.inl rfl, ?_⟩
  dsimp only
  rw [if_pos rfl, show (8 : Int32) = nI 8 from rfl, pk_mul, nI_add, pk_mul, nI_add]
  refine MO_measure_spec hW hH hfl (by omega) (fun g hg => ⟨vp_inN (by omega) (by decide), ?_⟩)
  rw [nI_clamp (by omega), hg _ (by omega)]
  exact h g
