/-! what a search comes to -/
noncomputable def rchF (fl B S : Int64) : Int64 := Classical.epsilon (isCl (Er (fl &&& (B ^^^ (-1)))) S)
noncomputable def stF (fl lv B : Int64) : Int64 := Classical.epsilon (isSt fl lv B)
noncomputable def lowF (X : Int64) : Nat := Classical.epsilon (isLow X)
theorem rchF_eq {fl B S X : Int64} (h : isCl (Er (fl &&& (B ^^^ (-1)))) S X) : X = rchF fl B S := h.uniq (Classical.epsilon_spec ⟨X, h⟩)
theorem stF_eq {fl lv B X : Int64} (h : isSt fl lv B X) : X = stF fl lv B := h.uniq (Classical.epsilon_spec ⟨X, h⟩)
theorem lowF_eq {X : Int64} {k : Nat} (h : isLow X k) : k = lowF X := h.uniq (Classical.epsilon_spec ⟨k, h⟩)
/-- the lowest cell of a reach lies on the floor, like its start -/
theorem rch_low {fl B X : Int64} {c k : Nat} (hc : c < 64) (hfc : tb fl c = true) (h : isCl (Er (fl &&& (B ^^^ (-1)))) (bit c) X) (hk : tb X k = true) : tb fl k = true := by
  have hk64 := tb_lt hk
  have : sub X fl := h.2.2 fl (fun i hi e => by rw [tb_bit hc] at e; rw [of_decide_eq_true e]; exact hfc) (fun i j _ hj _ e => by
    have := e.2
    rw [tb_diff, Bool.and_eq_true] at this
    exact this.1)
  exact this k hk64 hk
theorem rch_ne0 {fl B X : Int64} {c : Nat} (hc : c < 64) (h : isCl (Er (fl &&& (B ^^^ (-1)))) (bit c) X) : ¬ X = 0 := fun e => by
  have := h.1 c hc (by rw [tb_bit hc]; simp)
  rw [e, tb_zero] at this; cases this
theorem BO_reach_low {fl B : Int64} {c : Nat} {post : Int64 → Prop} (hc : c < 64) (h : isCl (Er (fl &&& (B ^^^ (-1)))) (bit c) (rchF fl B (bit c)) → isLow (rchF fl B (bit c)) (lowF (rchF fl B (bit c))) → post (rchF fl B (bit c))) : BO_reachOf fl (bit c) B post := by
  refine BO_reachOf_spec (fun X hX => ?_)
  obtain ⟨k, hk⟩ := low_ex (rch_ne0 hc hX)
  have e := rchF_eq hX
  subst e
  have e2 := lowF_eq hk
  subst e2
  exact h hX hk
theorem MO_reach_low {W H : Nat} {fl B : Int64} {c : Nat} {post : Int64 → Prop} (hW : W ≤ 8) (hH : H ≤ 8) (hfl : onB W H fl) (hc : c < 64) (hfc : tb fl c = true) (h : isCl (Er (fl &&& (B ^^^ (-1)))) (bit c) (rchF fl B (bit c)) → isLow (rchF fl B (bit c)) (lowF (rchF fl B (bit c))) → post (rchF fl B (bit c))) : MO_reachOf (nI W) (nI H) fl (nI c) B post := by
  refine MO_reachOf_spec hW hH hfl hc (hfl c hc hfc) (fun X hX => ?_)
  obtain ⟨k, hk⟩ := low_ex (rch_ne0 hc hX)
  have e := rchF_eq hX
  subst e
  have e2 := lowF_eq hk
  subst e2
  exact h hX hk
def hasK (SB : Nat → Int64) (SL : Nat → Nat) (B : Int64) (low : Nat) : Nat → Bool
  | 0 => false
  | i + 1 => hasK SB SL B low i || (decide (SB i = B) && decide (SL i = low))
theorem hasK_iff {SB : Nat → Int64} {SL : Nat → Nat} {B : Int64} {low : Nat} : ∀ m, hasK SB SL B low m = true ↔ ∃ i, i < m ∧ SB i = B ∧ SL i = low := by
  intro m
  induction m with
  | zero => exact ⟨fun h => Bool.noConfusion h, fun ⟨i, h, _⟩ => absurd h (Nat.not_lt_zero _)⟩
  | succ m ih =>
    show (hasK SB SL B low m || (decide (SB m = B) && decide (SL m = low))) = true ↔ _
    rw [Bool.or_eq_true, Bool.and_eq_true, ih]
    constructor
    · rintro (⟨i, h1, h2⟩ | ⟨h1, h2⟩)
      · exact ⟨i, by omega, h2⟩
      · exact ⟨m, by omega, of_decide_eq_true h1, of_decide_eq_true h2⟩
    · rintro ⟨i, h1, h2, h3⟩
      by_cases e : i = m
      · subst e; exact Or.inr ⟨decide_eq_true h2, decide_eq_true h3⟩
      · exact Or.inl ⟨i, by omega, h2, h3⟩
/-- how many, boxes, lowest cells, parents, pushes -/
noncomputable def comeF (fl gl lv : Int64) (most : Nat) (S : Nat × (Nat → Int64) × (Nat → Nat) × (Nat → Nat) × (Nat → Int32)) (B : Int64) (c par : Nat) (pu : Int32) : (Nat × (Nat → Int64) × (Nat → Nat) × (Nat → Nat) × (Nat → Int32)) × Nat :=
  if stF fl lv B &&& (gl ^^^ (-1)) = 0 then
    (if hasK S.2.1 S.2.2.1 B (lowF (rchF fl B (bit c))) S.1 = true then (S, 0)
    else if most ≤ S.1 then (S, 2)
    else ((S.1 + 1, vp_updL S.2.1 S.1 B, updN S.2.2.1 S.1 (lowF (rchF fl B (bit c))), updN S.2.2.2.1 S.1 par, upd S.2.2.2.2 S.1 pu), if gl &&& (B ^^^ (-1)) = 0 then 1 else 0))
  else (S, 0)
def sOK (fl : Int64) (nb : Nat) (m : Nat) (SB : Nat → Int64) (SL SP : Nat → Nat) : Prop := (∀ i, i < m → SL i < 64 ∧ (0 < i → SP i < i) ∧ SP i ≤ i ∧ sub (SB i) fl ∧ cnt (SB i) = nb ∧ tb fl (SL i) = true) ∧ ∀ i j, i < j → j < m → ¬ (SB i = SB j ∧ SL i = SL j)
theorem sOK_add {fl B : Int64} {nb m low par : Nat} {SB : Nat → Int64} {SL SP : Nat → Nat} (h : sOK fl nb m SB SL SP) (h1 : low < 64) (h2 : 0 < m → par < m) (h2' : par ≤ m) (h3 : sub B fl) (h4 : cnt B = nb) (h5 : tb fl low = true) (h6 : hasK SB SL B low m = false) : sOK fl nb (m + 1) (vp_updL SB m B) (updN SL m low) (updN SP m par) := by
  refine ⟨fun i hi => ?_, fun i j hij hj q => ?_⟩
  · by_cases e : i = m
    · subst e
      rw [updN_same, updN_same, pk_uLs]
      exact ⟨h1, h2, h2', h3, h4, h5⟩
    · rw [updN_other _ _ e, updN_other _ _ e, pk_uLn e]
      exact h.1 i (by omega)
  · by_cases e : j = m
    · subst e
      rw [pk_uLs, updN_same, pk_uLn (by omega), updN_other _ _ (by omega)] at q
      have : hasK SB SL B low j = true := (hasK_iff j).mpr ⟨i, hij, q.1, q.2⟩
      rw [h6] at this; cases this
    · rw [pk_uLn (by omega), updN_other _ _ (by omega), pk_uLn e, updN_other _ _ e] at q
      exact h.2 i j hij (by omega) q
/-! the program's rows -/
def hsC (k : Nat) (SB : Nat → Int64) (SL : Nat → Nat) : Nat → Nat := fun i => lowB k (mixC (SB i) (nI (SL i)))
def lenOK (nn N k : Nat) : Prop := (nn = 128 ∧ N = 256 ∧ k = 8) ∨ (nn = 10000 ∧ N = 16384 ∧ k = 14)
theorem lenOK.N {nn N k : Nat} (h : lenOK nn N k) : N = 2 ^ k ∧ k ≤ 14 ∧ nn ≤ 10000 ∧ nn < N := by
  rcases h with ⟨h1, h2, h3⟩ | ⟨h1, h2, h3⟩ <;> subst h1 h2 h3 <;> decide
def cRel (m : Nat) (SB : Nat → Int64) (SL SP : Nat → Nat) (SU : Nat → Int32) (nn N k : Nat) (sb : Nat → Int64) (sl sp su ss : Nat → Int32) : Prop := lenOK nn N k ∧ m ≤ nn ∧ sbR SB m sb ∧ slR SL m sl ∧ slR SP m sp ∧ (∀ i, i < m → su i = SU i) ∧ ∃ tab, ssR tab N ss ∧ tOK N tab (hsC k SB SL) m
theorem hsC_add {k m low : Nat} {B : Int64} {SB : Nat → Int64} {SL : Nat → Nat} : (∀ i, i < m → hsC k (vp_updL SB m B) (updN SL m low) i = hsC k SB SL i) ∧ hsC k (vp_updL SB m B) (updN SL m low) m = lowB k (mixC B (nI low)) := by
  refine ⟨fun i hi => ?_, ?_⟩
  · unfold hsC
    rw [pk_uLn (by omega), updN_other _ _ (by omega)]
  · unfold hsC
    rw [pk_uLs, updN_same]
theorem takeIn_16 {bc bs m nn N k low par : Nat} {SB : Nat → Int64} {SL SP : Nat → Nat} {SU : Nat → Int32} {sb : Nat → Int64} {sl sp su ss : Nat → Int32} {B : Int64} {pu : Int32} {post : Int32 → Nat → (Nat → Int64) → Nat → (Nat → Int32) → Nat → (Nat → Int32) → Nat → (Nat → Int32) → Nat → (Nat → Int32) → Prop} (hR : cRel m SB SL SP SU nn N k sb sl sp su ss) (hm : m < nn) (hS : ∀ i, i < m → SL i < 64) (hlow : low < 64) (hno : hasK SB SL B low m = false)
    (h : ∀ sb' sl' sp' su' ss', cRel (m + 1) (vp_updL SB m B) (updN SL m low) (updN SP m par) (upd SU m pu) nn N k sb' sl' sp' su' ss' → post (nI (m + 1)) nn sb' nn sl' nn sp' nn su' N ss') : SE_takeIn_16 post bc bs (nI m) nn sb nn sl nn sp nn su N ss B (nI low) (nI par) pu := by
  obtain ⟨r1, r2, r3, r4, r5, r6, tab, r7, r8⟩ := hR
  obtain ⟨n1, n2, n3, n4⟩ := r1.N
  have hNb : N ≤ 16384 := by rw [n1]; exact Nat.pow_le_pow_right (n := 2) (by decide) n2
  have hin : vp_in (nI m) nn := vp_inN hm (by omega)
  refine ⟨hin, fun sb' e1 => ⟨hin, fun sl' e2 => ⟨hin, fun sp' e3 => ⟨hin, fun su' e4 c e5 => ?_⟩⟩⟩⟩
  rw [nI_clamp (by omega)] at e1 e2 e3 e4
  rw [nI_1] at e5
  subst e5
  have s1 : sbR SB m sb' := fun i hi => by rw [e1, pk_uLn (by omega)]; exact r3 i hi
  have s2 : slR SL m sl' := fun i hi => by rw [e2, upd_other _ _ (by omega)]; exact r4 i hi
  refine SE_slotOf_spec n1 n2 (by omega) (by omega) (by omega) n3 n3 hS hlow s1 s2 r7 r8 (fun d d1 d2 d3 => ?_)
  obtain ⟨p1, p2⟩ := probe_none r8 (by omega) (fun i hi q => by
    have : hasK SB SL B low m = true := (hasK_iff m).mpr ⟨i, hi, q⟩
    rw [hno] at this; cases this) d2 d3
  have hs : (lowB k (mixC B (nI low)) + d) % N < N := Nat.mod_lt _ (by omega)
  refine ⟨vp_inN hs (by omega), fun ss' e6 => ?_⟩
  rw [nI_clamp (by omega)] at e6
  refine h sb' sl' sp' su' ss' ⟨r1, by omega, fun i hi => ?_, fun i hi => ?_, fun i hi => ?_, fun i hi => ?_, updN tab ((lowB k (mixC B (nI low)) + d) % N) (m + 1), fun s hs => ?_, ?_⟩
  · rw [e1]
    by_cases e : i = m
    · subst e; rw [pk_uLs, pk_uLs]
    · rw [pk_uLn e, pk_uLn e]; exact r3 i (by omega)
  · rw [e2]
    by_cases e : i = m
    · subst e; rw [upd_same, updN_same]
    · rw [upd_other _ _ e, updN_other _ _ e]; exact r4 i (by omega)
  · rw [e3]
    by_cases e : i = m
    · subst e; rw [upd_same, updN_same]
    · rw [upd_other _ _ e, updN_other _ _ e]; exact r5 i (by omega)
  · rw [e4]
    by_cases e : i = m
    · subst e; rw [upd_same, upd_same]
    · rw [upd_other _ _ e, upd_other _ _ e]; exact r6 i (by omega)
  · rw [e6]
    by_cases e : s = (lowB k (mixC B (nI low)) + d) % N
    · rw [e, upd_same, updN_same]
    · rw [upd_other _ _ e, updN_other _ _ e]; exact r7 s hs
  · exact tOK_add r8 d1 p1 p2 hsC_add.1 hsC_add.2
/-- more room: the same states, in longer rows -/
theorem makeRoom_67 {m : Nat} {SB : Nat → Int64} {SL : Nat → Nat} {sb : Nat → Int64} {sl sp su : Nat → Int32} {post : Nat → (Nat → Int64) → Nat → (Nat → Int32) → Nat → (Nat → Int32) → Nat → (Nat → Int32) → Nat → (Nat → Int32) → Prop} (hm : m ≤ 10000) (hS : ∀ i, i < m → SL i < 64) (hd : ∀ i j, i < j → j < m → ¬ (SB i = SB j ∧ SL i = SL j)) (h1 : sbR SB m sb) (h2 : slR SL m sl)
    (h : ∀ ss tab, ssR tab 16384 ss → tOK 16384 tab (hsC 14 SB SL) m → post 10000 sb 10000 sl 10000 sp 10000 su 16384 ss) :
    ∀ n i ss tab, i ≤ m → m - i < n → ssR tab 16384 ss → tOK 16384 tab (hsC 14 SB SL) i → SE_makeRoom_67 (nI m) post n 10000 sb 10000 sl 10000 sp 10000 su 16384 ss (nI i) := by
  intro n
  induction n with
  | zero => intro i _ _ _ h; exact absurd h (Nat.not_lt_zero _)
  | succ n ih =>
    intro i ss tab hi hn hss hT
    unfold SE_makeRoom_67
    by_cases q : m ≤ i
    · rw [if_pos (nI_le q (by omega))]
      rw [show i = m by omega] at hT
      exact h ss tab hss hT
    · rw [if_neg (nI_ge (by omega) (by omega))]
      refine ⟨vp_inN (by omega) (by decide), vp_inN (by omega) (by decide), ?_⟩
      rw [nI_clamp (by omega), h1 i (by omega), h2 i (by omega)]
      refine SE_slotOf_spec (k := 14) (m := i) (by decide) (by decide) (by omega) (by omega) (by omega) (by decide) (by decide) (fun j hj => hS j (by omega)) (hS i (by omega)) (fun j hj => h1 j (by omega)) (fun j hj => h2 j (by omega)) hss hT (fun d d1 d2 d3 => ?_)
      obtain ⟨p1, p2⟩ := probe_none hT (by decide) (fun j hj q => hd j i hj (by omega) q) d2 d3
      have hs : (lowB 14 (mixC (SB i) (nI (SL i))) + d) % 16384 < 16384 := Nat.mod_lt _ (by decide)
      intro x ex
      refine ⟨vp_inN hs (by decide), fun ss' e6 => ?_⟩
      rw [nI_clamp (by omega), ex, nI_1] at e6
      rw [nI_1]
      refine ih (i + 1) ss' (updN tab ((lowB 14 (mixC (SB i) (nI (SL i))) + d) % 16384) (i + 1)) (by omega) (by omega) (fun s hs => ?_) (tOK_add hT d1 p1 p2 (fun _ _ => rfl) rfl)
      rw [e6]
      by_cases e : s = (lowB 14 (mixC (SB i) (nI (SL i))) + d) % 16384
      · rw [e, upd_same, updN_same]
      · rw [upd_other _ _ e, updN_other _ _ e]; exact hss s hs
def grow (nn m : Nat) : Nat := if nn = 128 ∧ m = 128 then 10000 else nn
theorem SE_takeIn_spec {bc bs m nn N k low par : Nat} {SB : Nat → Int64} {SL SP : Nat → Nat} {SU : Nat → Int32} {sb : Nat → Int64} {sl sp su ss : Nat → Int32} {B : Int64} {pu : Int32} {post : Int32 → Nat → (Nat → Int64) → Nat → (Nat → Int32) → Nat → (Nat → Int32) → Nat → (Nat → Int32) → Nat → (Nat → Int32) → Prop} (hR : cRel m SB SL SP SU nn N k sb sl sp su ss) (hm : m < 10000) (hS : ∀ i, i < m → SL i < 64) (hd : ∀ i j, i < j → j < m → ¬ (SB i = SB j ∧ SL i = SL j)) (hlow : low < 64) (hno : hasK SB SL B low m = false) (hb : nn = 128 → m = 128 → 5 ≤ bc ∧ 56384 ≤ bs)
    (h : ∀ N' k' sb' sl' sp' su' ss', cRel (m + 1) (vp_updL SB m B) (updN SL m low) (updN SP m par) (upd SU m pu) (grow nn m) N' k' sb' sl' sp' su' ss' → post (nI (m + 1)) (grow nn m) sb' (grow nn m) sl' (grow nn m) sp' (grow nn m) su' N' ss') : SE_takeIn (nI m) nn sb nn sl nn sp nn su N ss B (nI low) (nI par) pu bc bs post := by
  have hR0 := hR
  obtain ⟨r1, r2, r3, r4, r5, r6, tab, r7, r8⟩ := hR
  obtain ⟨n1, n2, n3, n4⟩ := r1.N
  unfold SE_takeIn
  by_cases q : m < nn
  · rw [if_pos (nI_lt q (by omega))]
    have eg : grow nn m = nn := by unfold grow; rw [if_neg (by omega)]
    rw [eg] at h
    exact takeIn_16 hR0 q hS hlow hno (fun sb' sl' sp' su' ss' hc => h N k sb' sl' sp' su' ss' hc)
  · rw [if_neg (nI_nlt (by omega) (by omega))]
    have hnn : nn = 128 ∧ m = 128 := by
      rcases r1 with ⟨a, -, -⟩ | ⟨a, -, -⟩ <;> omega
    have eg : grow nn m = 10000 := by unfold grow; rw [if_pos hnn]
    rw [eg] at h
    obtain ⟨b1, b2⟩ := hb hnn.1 hnn.2
    refine ⟨b1, b2, by omega, fun sb1 e1 => ⟨by omega, fun sl1 e2 => ⟨by omega, fun sp1 e3 => ⟨by omega, fun su1 e4 => ?_⟩⟩⟩⟩
    have s1 : sbR SB m sb1 := fun i hi => by rw [e1, ← r3 i hi]; exact if_pos (by omega)
    have s2 : slR SL m sl1 := fun i hi => by rw [e2, ← r4 i hi]; exact if_pos (by omega)
    have s3 : slR SP m sp1 := fun i hi => by rw [e3, ← r5 i hi]; exact if_pos (by omega)
    have s4 : ∀ i, i < m → su1 i = SU i := fun i hi => by rw [e4, ← r6 i hi]; exact if_pos (by omega)
    refine ⟨m + 1, makeRoom_67 (by omega) hS hd s1 s2 (fun ss2 tab2 t1 t2 => ?_) (m + 1) 0 (fun _ => 0) (fun _ => 0) (Nat.zero_le _) (by omega) (fun _ _ => rfl) (tOK_0 _ _)⟩
    exact takeIn_16 ⟨Or.inr ⟨rfl, rfl, rfl⟩, by omega, s1, s2, s3, s4, tab2, t1, t2⟩ (by omega) hS hlow hno (fun sb' sl' sp' su' ss' hc => h 16384 14 sb' sl' sp' su' ss' hc)
