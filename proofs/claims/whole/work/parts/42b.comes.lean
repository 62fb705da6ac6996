/-- a closure exists -/
theorem cl_ex (E : Nat → Nat → Prop) (S : Int64) : ∃ X, isCl E S X := by
  have key : ∀ n come, 64 - cnt come < n → sub S come → lbd E S come → ∃ X, isCl E S X := by
    intro n
    induction n with
    | zero => intro come h; exact absurd h (Nat.not_lt_zero _)
    | succ n ih =>
      intro come hn hS hl
      by_cases q : clo E come
      · exact ⟨come, hS, q, hl⟩
      · have : ∃ i j, i < 64 ∧ j < 64 ∧ tb come i = true ∧ E i j ∧ tb come j = false := by
          apply Classical.byContradiction
          intro h
          refine q (fun i j hi hj h1 h2 => ?_)
          cases e : tb come j with
          | true => rfl
          | false => exact absurd ⟨i, j, hi, hj, h1, h2, e⟩ h
        obtain ⟨i, j, hi, hj, h1, h2, h3⟩ := this
        have hc := cnt_fresh hj h3
        have hc2 := cnt_le (come ||| bit j)
        refine ih (come ||| bit j) (by omega) (hS.tr sub.or) (hl.grow fun k hk e => ?_)
        rw [tb_orbit hj] at e
        by_cases ek : k = j
        · rw [ek]; exact Or.inr ⟨i, hi, h1, h2⟩
        · rw [decide_eq_false ek, Bool.or_false] at e; exact Or.inl e
  exact key 65 S (by omega) (sub.rf S) (lbd.rf E S)
def fdI (st m : Nat) : Int32 := if st = 1 then nI (m - 1) else -1
def ovI (st : Nat) : Int32 := if st = 2 then 1 else 0
theorem BO_isStuck_spec {fl gl lv B : Int64} {post : Int32 → Prop} (hB : cnt B ≤ 12) (h0 : stF fl lv B &&& (gl ^^^ (-1)) = 0 → post 0) (h1 : ¬ stF fl lv B &&& (gl ^^^ (-1)) = 0 → post 1) : BO_isStuck fl gl (sh lv 0 ||| sh lv 2) (sh lv 1 ||| sh lv 3) B post := by
  refine BO_standing_spec hB (fun X hX => ?_)
  rw [stF_eq hX]
  by_cases e : stF fl lv B &&& (gl ^^^ (-1)) = 0
  · rw [if_pos e]; exact h0 e
  · rw [if_neg e]; exact h1 e
/-- what comes of one step -/
theorem comeF_keep {fl gl lv B : Int64} {most nb m m' c par st : Nat} {SB SB' : Nat → Int64} {SL SP SL' SP' : Nat → Nat} {SU SU' : Nat → Int32} {pu : Int32} (hs : sOK fl nb m SB SL SP) (hm : m ≤ most) (hc : c < 64) (hfc : tb fl c = true) (hB : sub B fl) (hBn : cnt B = nb) (hp : par < m) (h : comeF fl gl lv most (m, SB, SL, SP, SU) B c par pu = ((m', SB', SL', SP', SU'), st)) :
    sOK fl nb m' SB' SL' SP' ∧ m ≤ m' ∧ m' ≤ most ∧ st ≤ 2 ∧ (∀ i, i < m → SB' i = SB i ∧ SL' i = SL i) ∧ (st = 1 → 0 < m') ∧ (st = 2 → m' = most) := by
  unfold comeF at h
  dsimp only at h
  by_cases e1 : stF fl lv B &&& (gl ^^^ (-1)) = 0
  · rw [if_pos e1] at h
    by_cases e2 : hasK SB SL B (lowF (rchF fl B (bit c))) m = true
    · rw [if_pos e2] at h
      cases h
      exact ⟨hs, Nat.le_refl _, hm, by omega, fun i _ => ⟨rfl, rfl⟩, fun h => by omega, fun h => by omega⟩
    · rw [if_neg e2] at h
      by_cases e3 : most ≤ m
      · rw [if_pos e3] at h
        cases h
        exact ⟨hs, Nat.le_refl _, hm, by omega, fun i _ => ⟨rfl, rfl⟩, fun h => by omega, fun h => by omega⟩
      · rw [if_neg e3] at h
        obtain ⟨h1, h2⟩ := Prod.mk.inj h
        cases h1
        have hex : isLow (rchF fl B (bit c)) (lowF (rchF fl B (bit c))) ∧ tb fl (lowF (rchF fl B (bit c))) = true := by
          obtain ⟨X, hX⟩ : ∃ X, isCl (Er (fl &&& (B ^^^ (-1)))) (bit c) X := cl_ex _ _
          obtain ⟨k, hk⟩ := low_ex (rch_ne0 hc hX)
          have e := rchF_eq hX
          subst e
          have e2 := lowF_eq hk
          subst e2
          exact ⟨hk, rch_low hc hfc hX hk.2.1⟩
        refine ⟨sOK_add hs hex.1.1 (fun _ => hp) (by omega) hB hBn hex.2 (Bool.eq_false_iff.mpr e2), by omega, by omega, ?_, fun i hi => ⟨by rw [pk_uLn (by omega)], by rw [updN_other _ _ (by omega)]⟩, fun _ => by omega, fun h => ?_⟩
        · rw [← h2]; split <;> omega
        · rw [← h2] at h; split at h <;> omega
  · rw [if_neg e1] at h
    cases h
    exact ⟨hs, Nat.le_refl _, hm, by omega, fun i _ => ⟨rfl, rfl⟩, fun h => by omega, fun h => by omega⟩
theorem SE_comeTo_spec {fl gl lv B : Int64} {bc bs most nb m m' c par st nn N k : Nat} {SB SB' : Nat → Int64} {SL SP SL' SP' : Nat → Nat} {SU SU' : Nat → Int32} {pu : Int32} {sb : Nat → Int64} {sl sp su ss : Nat → Int32} {post : Int32 → Int32 → Int32 → Nat → (Nat → Int64) → Nat → (Nat → Int32) → Nat → (Nat → Int32) → Nat → (Nat → Int32) → Nat → (Nat → Int32) → Prop}
    (hR : cRel m SB SL SP SU nn N k sb sl sp su ss) (hs : sOK fl nb m SB SL SP) (hnb : nb ≤ 12) (hmm : m ≤ most) (hmost : most ≤ 10000) (hc : c < 64) (hfc : tb fl c = true) (hB : sub B fl) (hBn : cnt B = nb) (hp : par < m)
    (hF : comeF fl gl lv most (m, SB, SL, SP, SU) B c par pu = ((m', SB', SL', SP', SU'), st)) (hb : nn = 128 → m = 128 → ¬ m' = m → 5 ≤ bc ∧ 56384 ≤ bs)
    (h : ∀ nn' N' k' sb' sl' sp' su' ss', cRel m' SB' SL' SP' SU' nn' N' k' sb' sl' sp' su' ss' → nn' = (if m' = m then nn else grow nn m) → post (nI m') (fdI st m') (ovI st) nn' sb' nn' sl' nn' sp' nn' su' N' ss') :
    SE_comeTo fl gl (sh lv 0 ||| sh lv 2) (sh lv 1 ||| sh lv 3) (nI m) (-1) 0 nn sb nn sl nn sp nn su N ss B (bit c) (nI par) pu (nI most) bc bs post := by
  have same : ((m', SB', SL', SP', SU'), st) = ((m, SB, SL, SP, SU), 0) → post (nI m) (-1) 0 nn sb nn sl nn sp nn su N ss := fun e => by
    cases e
    exact h nn N k sb sl sp su ss hR (by rw [if_pos rfl])
  unfold comeF at hF
  dsimp only at hF
  unfold SE_comeTo
  refine BO_isStuck_spec (by omega) (fun e1 => ?_) (fun e1 => ?_)
  · rw [if_pos rfl]
    rw [if_pos e1] at hF
    refine BO_reach_low hc (fun hX hlow => ?_)
    refine PB_spotOf_spec hlow ?_
    have hfl := rch_low hc hfc hX hlow.2.1
    generalize lowF (rchF fl B (bit c)) = low at hF hlow hfl ⊢
    have hl64 := hlow.1
    have hR0 := hR
    obtain ⟨r1, r2, r3, r4, r5, r6, tab, r7, r8⟩ := hR
    obtain ⟨n1, n2, n3, n4⟩ := r1.N
    have hNb : N ≤ 16384 := by rw [n1]; exact Nat.pow_le_pow_right (n := 2) (by decide) n2
    refine SE_slotOf_spec n1 n2 r2 r2 (by omega) n3 n3 (fun i hi => (hs.1 i hi).1) hl64 r3 r4 r7 r8 (fun d d1 d2 d3 => ?_)
    have hsl : (lowB k (mixC B (nI low)) + d) % N < N := Nat.mod_lt _ (by omega)
    refine ⟨vp_inN hsl (by omega), ?_⟩
    rw [nI_clamp (by omega), r7 _ hsl]
    by_cases e2 : hasK SB SL B low m = true
    · rw [if_pos e2] at hF
      obtain ⟨i, hi, k1, k2⟩ := (hasK_iff m).mp e2
      have hne := probe_some (g := lowB k (mixC B (nI low))) r8 hi ⟨k1, k2⟩ (show hsC k SB SL i = _ by unfold hsC; rw [k1, k2]) d3
      have htl := r8.1 _ hsl
      rw [if_neg (nI_ne0 (by omega) (by omega))]
      exact same hF.symm
    · rw [if_neg e2] at hF
      have hno : hasK SB SL B low m = false := Bool.eq_false_iff.mpr e2
      obtain ⟨p1, p2⟩ := probe_none r8 (by omega) (fun i hi q => e2 ((hasK_iff m).mpr ⟨i, hi, q⟩)) d2 d3
      rw [p1, if_pos nI_0]
      by_cases e3 : most ≤ m
      · rw [if_pos e3] at hF
        rw [if_neg (nI_nlt e3 (by omega))]
        cases hF
        exact h nn N k sb sl sp su ss hR0 (by rw [if_pos rfl])
      · rw [if_neg e3] at hF
        rw [if_pos (nI_lt (by omega) (by omega))]
        obtain ⟨f1, f2⟩ := Prod.mk.inj hF
        cases f1
        refine ⟨bc, bs, Nat.le_refl _, Nat.le_refl _, ?_⟩
        refine SE_takeIn_spec hR0 (by omega) (fun i hi => (hs.1 i hi).1) hs.2 hl64 hno (fun a b => hb a b (by omega)) (fun N' k' sb' sl' sp' su' ss' hc' => ?_)
        unfold BO_isDone
        have hh := h (grow nn m) N' k' sb' sl' sp' su' ss' hc' (by rw [if_neg (by omega)])
        by_cases e4 : gl &&& (B ^^^ (-1)) = 0
        · rw [if_pos e4] at f2
          rw [if_pos e4]
          dsimp only
          rw [if_neg (by decide)]
          intro fd ef
          subst f2
          rw [show (1 : Int32) = nI 1 from rfl, pk_sub (by omega)] at ef
          rw [ef]
          exact hh
        · rw [if_neg e4] at f2
          rw [if_neg e4]
          dsimp only
          rw [if_pos rfl]
          subst f2
          exact hh
  · rw [if_neg (by decide)]
    rw [if_neg e1] at hF
    exact same hF.symm
/-! the reference's -/
def hsR (SB : Nat → Int64) (SL : Nat → Nat) : Nat → Nat := fun i => lowS (mixR (SB i) (nI (SL i)))
def rRel (m : Nat) (SB : Nat → Int64) (SL SP : Nat → Nat) (SU : Nat → Int32) (xb : Nat → Int64) (xc xf xy xs : Nat → Int32) : Prop := sbR SB m xb ∧ slR SL m xc ∧ (∀ i, 0 < i → i < m → xf i = nI (SP i)) ∧ (∀ i, i < m → xy i = SU i) ∧ ∃ tab, xsR tab xs ∧ tOK 32768 tab (hsR SB SL) m
theorem hsR_add {m low : Nat} {B : Int64} {SB : Nat → Int64} {SL : Nat → Nat} : (∀ i, i < m → hsR (vp_updL SB m B) (updN SL m low) i = hsR SB SL i) ∧ hsR (vp_updL SB m B) (updN SL m low) m = lowS (mixR B (nI low)) := by
  refine ⟨fun i hi => ?_, ?_⟩
  · unfold hsR
    rw [pk_uLn (by omega), updN_other _ _ (by omega)]
  · unfold hsR
    rw [pk_uLs, updN_same]
theorem MO_isNew_spec {W H : Nat} {fl B : Int64} {m c par : Nat} {SB : Nat → Int64} {SL SP : Nat → Nat} {SU : Nat → Int32} {pv pu : Int32} {xb : Nat → Int64} {xc xf xy xs : Nat → Int32} {post : Int32 → Int32 → (Nat → Int64) → (Nat → Int32) → (Nat → Int32) → (Nat → Int32) → (Nat → Int32) → Prop} (hW : W ≤ 8) (hH : H ≤ 8) (hfl : onB W H fl) (hc : c < 64) (hfc : tb fl c = true)
    (hR : rRel m SB SL SP SU xb xc xf xy xs) (hm : m ≤ 10000) (hS : ∀ i, i < m → SL i < 64) (hpv : 0 < m → pv = nI par)
    (h0 : hasK SB SL B (lowF (rchF fl B (bit c))) m = true → post 0 (nI m) xb xc xf xy xs)
    (h1 : hasK SB SL B (lowF (rchF fl B (bit c))) m = false → ∀ xb' xc' xf' xy' xs', rRel (m + 1) (vp_updL SB m B) (updN SL m (lowF (rchF fl B (bit c)))) (updN SP m par) (upd SU m pu) xb' xc' xf' xy' xs' → post 1 (nI (m + 1)) xb' xc' xf' xy' xs') :
    MO_isNew (nI W) (nI H) fl (nI m) xb xc xf xy xs B (nI c) pv pu post := by
  refine MO_reach_low hW hH hfl hc hfc (fun hX hlow => ?_)
  refine MO_leastOf_spec hlow ?_
  generalize lowF (rchF fl B (bit c)) = low at h0 h1 hlow ⊢
  have hl64 := hlow.1
  obtain ⟨r3, r4, r5, r6, tab, r7, r8⟩ := hR
  refine MO_seatOf_spec (by omega) hS hl64 r3 r4 r7 r8 (fun d d1 d2 d3 => ?_)
  have hsl : (lowS (mixR B (nI low)) + d) % 32768 < 32768 := Nat.mod_lt _ (by decide)
  refine ⟨vp_inN hsl (by decide), ?_⟩
  rw [nI_clamp (by omega), r7 _ hsl]
  have htl := r8.1 _ hsl
  by_cases e2 : hasK SB SL B low m = true
  · obtain ⟨i, hi, k1, k2⟩ := (hasK_iff m).mp e2
    have hne := probe_some (g := lowS (mixR B (nI low))) r8 hi ⟨k1, k2⟩ (show hsR SB SL i = _ by unfold hsR; rw [k1, k2]) d3
    rw [show (1 : Int32) = nI 1 from rfl, pk_sub (by omega), if_neg (nI_pos (by omega))]
    exact h0 e2
  · have hno : hasK SB SL B low m = false := Bool.eq_false_iff.mpr e2
    obtain ⟨p1, p2⟩ := probe_none r8 (by decide) (fun i hi q => e2 ((hasK_iff m).mpr ⟨i, hi, q⟩)) d2 d3
    rw [p1, if_pos (by decide)]
    have hin : vp_in (nI m) 10001 := vp_inN (by omega) (by decide)
    refine ⟨vp_inN hsl (by decide), fun xs' e0 => ⟨hin, fun xb' e1 => ⟨hin, fun xc' e2 => ⟨hin, fun xf' e3 => ⟨hin, fun xy' e4 mm em => ?_⟩⟩⟩⟩⟩
    rw [nI_clamp (by omega)] at e1 e2 e3 e4
    rw [em, nI_1]
    refine h1 hno xb' xc' xf' xy' xs' ⟨fun i hi => ?_, fun i hi => ?_, fun i hi0 hi => ?_, fun i hi => ?_, updN tab ((lowS (mixR B (nI low)) + d) % 32768) (m + 1), fun s hs => ?_, tOK_add r8 d1 p1 p2 hsR_add.1 hsR_add.2⟩
    · rw [e1]
      by_cases e : i = m
      · subst e; rw [pk_uLs, pk_uLs]
      · rw [pk_uLn e, pk_uLn e]; exact r3 i (by omega)
    · rw [e2]
      by_cases e : i = m
      · subst e; rw [upd_same, updN_same]
      · rw [upd_other _ _ e, updN_other _ _ e]; exact r4 i (by omega)
    · rw [e3]
      by_cases e : i = m
      · subst e; rw [upd_same, updN_same]; exact hpv hi0
      · rw [upd_other _ _ e, updN_other _ _ e]; exact r5 i hi0 (by omega)
    · rw [e4]
      by_cases e : i = m
      · subst e; rw [upd_same, upd_same]
      · rw [upd_other _ _ e, upd_other _ _ e]; exact r6 i (by omega)
    · rw [e0]
      by_cases e : s = (lowS (mixR B (nI low)) + d) % 32768
      · rw [e, upd_same, updN_same, show (1 : Int32) = nI 1 from rfl, pk_sub (by omega)]; rfl
      · rw [upd_other _ _ e, updN_other _ _ e]; exact r7 s hs
