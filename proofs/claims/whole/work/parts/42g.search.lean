/-! the search, both sides -/
def resOK (R : SSt × Nat) (ln : Nat) : Prop := (R.2 = 1 → isLen R.1.2.2.2.1 (R.1.1 - 1) ln) ∧ (¬ R.2 = 1 → ln = 0)
def ansR (R : SSt × Nat) (ln : Nat) : Int32 := if R.2 = 1 then nI ln else if R.2 = 2 then -2 else -1
def pthR (R : SSt × Nat) (ln : Nat) : Nat → Int32 := fun i => R.1.2.2.2.2 (anc R.1.2.2.2.1 (R.1.1 - 1) (ln - 1 - i))
def rK (fl : Int64) (nb' most : Nat) (R : SSt × Nat) : Prop := sK fl nb' most R.1 ∧ R.2 ≤ 2 ∧ (R.2 = 1 → 0 < R.1.1) ∧ (R.2 = 2 → R.1.1 = most)
theorem rK.par {fl : Int64} {nb' most : Nat} {R : SSt × Nat} (h : rK fl nb' most R) : ∀ i, i < R.1.1 → 0 < i → R.1.2.2.2.1 i < i := fun i hi h0 => (h.1.1.1 i hi).2.1 h0
theorem res_ex {fl : Int64} {nb' most : Nat} {R : SSt × Nat} (h : rK fl nb' most R) : ∃ ln, resOK R ln := by
  by_cases e : R.2 = 1
  · obtain ⟨ln, hl⟩ := len_ex (i := R.1.1 - 1) h.par (by have := h.2.2.1 e; omega)
    exact ⟨ln, fun _ => hl, fun q => absurd e q⟩
  · exact ⟨0, fun q => absurd q e, fun _ => rfl⟩
theorem res_le {fl : Int64} {nb' most ln : Nat} {R : SSt × Nat} (h : rK fl nb' most R) (hr : resOK R ln) : ln ≤ R.1.1 := by
  by_cases e : R.2 = 1
  · have h0 := h.2.2.1 e
    have := anc_bd (i := R.1.1 - 1) h.par (by omega) ln (hr.1 e).2
    omega
  · rw [hr.2 e]; exact Nat.zero_le _
theorem cls_122 {fl : Int64} {nb' most ln nn N k bc bs : Nat} {R : SSt × Nat} {W0 : Int32} {f1 f2 f3 f4 f5 f6 f7 : Int64} {sb : Nat → Int64} {sl sp su ss : Nat → Int32} {post : Int32 → Int32 → Int32 → Int32 → Int32 → Nat → (Nat → Int64) → Nat → (Nat → Int32) → Nat → (Nat → Int32) → Nat → (Nat → Int32) → Nat → (Nat → Int32) → Prop}
    (hK : rK fl nb' most R) (hres : resOK R ln) (hR : cRelS R.1 nn N k sb sl sp su ss)
    (h : pathOK ln (pthR R ln) nn (fdI R.2 R.1.1) sp su → post (ansR R ln) (nI R.1.1) (nI ln) (fdI R.2 R.1.1) (ovI R.2) nn sb nn sl nn sp nn su N ss) :
    SE_run_122 W0 f1 f2 f3 f4 f5 f6 f7 post bc bs (nI R.1.1) (0 : Int32) (fdI R.2 R.1.1) (ovI R.2) nn sb nn sl nn sp nn su N ss := by
  unfold SE_run_122
  unfold ansR at h
  have hm := hR.2.1
  obtain ⟨n1, n2, n3, n4⟩ := hR.1.N
  by_cases e1 : R.2 = 1
  · have h0 := hK.2.2.1 e1
    have hl := hres.1 e1
    have hbd : ∀ j, j ≤ ln → anc R.1.2.2.2.1 (R.1.1 - 1) j + j ≤ R.1.1 - 1 := fun j hj => anc_bd hK.par (by omega) j (fun k hk => hl.2 k (by omega))
    rw [if_pos e1] at h
    rw [if_pos (ov_0 (by omega))]
    have ef : fdI R.2 R.1.1 = nI (R.1.1 - 1) := if_pos e1
    rw [ef] at h ⊢
    refine pushesTo_spec hK.par (by omega) hm n3 hR.2.2.2.2.1 hl ?_
    rw [if_pos (nI_nonneg (by omega))]
    refine h ⟨anc R.1.2.2.2.1 (R.1.1 - 1), fun j hj => ?_, fun j hj => ?_, fun _ => rfl⟩
    · have := hbd j (by omega)
      refine ⟨by omega, ?_⟩
      rw [hR.2.2.2.2.2.1 _ (by omega)]
      unfold pthR
      rw [show ln - 1 - (ln - 1 - j) = j by omega]
    · have := hbd j (by omega)
      exact hR.2.2.2.2.1 _ (by omega)
  · have hl := hres.2 e1
    subst hl
    rw [if_neg e1] at h
    have ef : fdI R.2 R.1.1 = -1 := fd_neg e1
    rw [ef] at h ⊢
    by_cases e2 : R.2 = 2
    · rw [if_pos e2] at h
      rw [if_neg (by rw [show ovI R.2 = 1 from if_pos e2]; exact one_ne0)]
      exact h pathOK_0
    · rw [if_neg e2] at h
      rw [if_pos (ov_0 e2)]
      refine pushesTo_neg ?_
      rw [if_neg le_neg1]
      exact h pathOK_0
theorem cls_bfs {fl gl lv bx ps : Int64} {most W nb' M nn0 : Nat} {R : SSt × Nat} {post : Int32 → Int32 → Int32 → Int32 → Int32 → Nat → (Nat → Int64) → Nat → (Nat → Int32) → Nat → (Nat → Int32) → Nat → (Nat → Int32) → Nat → (Nat → Int32) → Prop}
    (hlv : sub lv fl) (hnb : nb' ≤ 12) (hmost : most ≤ 10000) (hM : R.1.1 ≤ M)
    (h1 : ∀ bc bs nn N k sb sl sp su ss, cRelS R.1 nn N k sb sl sp su ss → nn = nnF nn0 R.1.1 → SE_run_122 (nI W) fl gl lv bx ps (sh lv 0 ||| sh lv 2) (sh lv 1 ||| sh lv 3) post bc bs (nI R.1.1) (0 : Int32) (fdI R.2 R.1.1) (ovI R.2) nn sb nn sl nn sp nn su N ss) :
    ∀ n i S bc bs nn N k sb sl sp su ss, most < i + n → i ≤ S.1 → bfsL fl gl lv most W n i S = R → cRelS S nn N k sb sl sp su ss → sK fl nb' most S → bud nn M bc bs → nn = nnF nn0 S.1 →
    SE_run_74 (nI W) fl gl lv bx ps (sh lv 0 ||| sh lv 2) (sh lv 1 ||| sh lv 3) post (n + 1) bc bs (nI S.1) (0 : Int32) (-1 : Int32) (0 : Int32) nn sb nn sl nn sp nn su N ss (nI most) (nI i) := by
  intro n
  induction n with
  | zero =>
    intro i S bc bs nn N k sb sl sp su ss hn hi hF hR hs hb hnn
    have := hs.2
    omega
  | succ n ih =>
    intro i S bc bs nn N k sb sl sp su ss hn hi hF hR hs hb hnn
    have hsm := hs.2
    unfold bfsL at hF
    unfold SE_run_74
    by_cases q : S.1 ≤ i
    · rw [if_pos q] at hF
      rw [if_pos (nI_le q (by omega))]
      subst hF
      exact h1 bc bs nn N k sb sl sp su ss hR hnn
    · rw [if_neg q] at hF
      rw [if_neg (nI_ge (by omega) (by omega)), if_neg (kG (k := 10000) (by omega) (by decide)), if_neg le_neg1, if_pos rfl, nI_1]
      obtain ⟨k1, k2⟩ := fromL_k (gl := gl) (W := W) hlv hs (by omega : i < S.1)
      generalize hQ : fromL fl gl lv most W i S = Q at hF k1 k2
      have hle : Q.1.1 ≤ R.1.1 := by
        by_cases z : Q.2 = 0
        · rw [if_pos z] at hF
          rw [← hF]
          exact (bfsL_k hlv n (i + 1) Q.1 k1).2.1
        · rw [if_neg z] at hF; rw [hF]; exact Nat.le_refl _
      obtain ⟨b, s, b1, b2, b3, b4⟩ := bud_split hR.1.two hb (Nat.le_trans hle hM)
      refine ⟨b, s, b1, b2, cls_from hlv hnb hmost hQ hR hs (by omega) b3 (fun nn' N' k' sb' sl' sp' su' ss' r1 r2 => ?_)⟩
      have r3 : nn' = nnF nn0 Q.1.1 := by rw [r2, hnn, nnF_tr k2.1]
      by_cases z : Q.2 = 0
      · rw [if_pos z] at hF
        rw [z, fd_neg (by decide), ov_0 (by decide)]
        exact ih (i + 1) Q.1 (bc - b) (bs - s) nn' N' k' sb' sl' sp' su' ss' (by omega) (Nat.le_trans (by omega : i + 1 ≤ S.1) k2.1) hF r1 k1 (by rw [r2]; exact b4 M hb) r3
      · rw [if_neg z] at hF
        subst hF
        have hx := h1 (bc - b) (bs - s) nn' N' k' sb' sl' sp' su' ss' r1 r3
        unfold SE_run_74
        split
        · exact hx
        · split
          · exact hx
          · have k22 := k2.2.1
            have k12 := k1.2
            by_cases z1 : Q.2 = 1
            · rw [if_pos (by rw [show fdI Q.2 Q.1.1 = nI (Q.1.1 - 1) from if_pos z1]; exact nI_nonneg (by omega))]
              exact hx
            · rw [if_neg (by rw [fd_neg z1]; exact le_neg1), if_neg (by rw [show ovI Q.2 = 1 from if_pos (by omega)]; exact one_ne0)]
              exact hx
/-- the first state, and what the whole search comes to -/
noncomputable def stS0 (fl bx : Int64) (p : Nat) : SSt := (1, vp_updL (fun _ => 0) 0 bx, updN (fun _ => 0) 0 (lowF (rchF fl bx (bit p))), updN (fun _ => 0) 0 0, upd (fun _ => 0) 0 0)
noncomputable def srchF (fl gl lv bx : Int64) (most W p : Nat) : SSt × Nat := if gl &&& (bx ^^^ (-1)) = 0 then (stS0 fl bx p, 1) else bfsL fl gl lv most W 10001 0 (stS0 fl bx p)
theorem low_fl {fl bx : Int64} {p : Nat} (hp : p < 64) (hfp : tb fl p = true) : lowF (rchF fl bx (bit p)) < 64 ∧ tb fl (lowF (rchF fl bx (bit p))) = true := by
  obtain ⟨X, hX⟩ : ∃ X, isCl (Er (fl &&& (bx ^^^ (-1)))) (bit p) X := cl_ex _ _
  obtain ⟨k, hk⟩ := low_ex (rch_ne0 hp hX)
  have e := rchF_eq hX
  subst e
  have e2 := lowF_eq hk
  subst e2
  exact ⟨hk.1, rch_low hp hfp hX hk.2.1⟩
theorem stS0_k {fl bx : Int64} {most p : Nat} (hp : p < 64) (hfp : tb fl p = true) (hbx : sub bx fl) (hm : 1 ≤ most) : sK fl (cnt bx) most (stS0 fl bx p) := by
  obtain ⟨l1, l2⟩ := low_fl (bx := bx) hp hfp
  exact ⟨sOK_add (m := 0) ⟨fun i h => absurd h (Nat.not_lt_zero _), fun i j _ h => absurd h (Nat.not_lt_zero _)⟩ l1 (fun h => absurd h (Nat.lt_irrefl _)) (Nat.le_refl _) hbx rfl l2 rfl, hm⟩
theorem srch_k {fl gl lv bx : Int64} {most W p : Nat} (hp : p < 64) (hfp : tb fl p = true) (hbx : sub bx fl) (hm : 1 ≤ most) (hlv : sub lv fl) : rK fl (cnt bx) most (srchF fl gl lv bx most W p) := by
  have h0 := stS0_k (fl := fl) (bx := bx) hp hfp hbx hm
  unfold srchF
  split
  · exact ⟨h0, Nat.le_succ 1, fun _ => Nat.zero_lt_one, fun h => Nat.noConfusion (Nat.succ.inj h)⟩
  · obtain ⟨a, b⟩ := bfsL_k (gl := gl) (W := W) hlv 10001 0 _ h0
    exact ⟨a, b.2.1, b.2.2.2.1, b.2.2.2.2⟩
theorem BO_isDone_spec {gl B : Int64} {post : Int32 → Prop} (h1 : gl &&& (B ^^^ (-1)) = 0 → post 1) (h0 : ¬ gl &&& (B ^^^ (-1)) = 0 → post 0) : BO_isDone gl B post := by
  unfold BO_isDone
  by_cases e : gl &&& (B ^^^ (-1)) = 0
  · rw [if_pos e]; exact h1 e
  · rw [if_neg e]; exact h0 e
theorem PB_search_spec {fl gl lv bx : Int64} {most W p ln nn N k bc bs : Nat} {R : SSt × Nat} {sb : Nat → Int64} {sl sp su ss : Nat → Int32} {ct0 ln0 fd0 ov0 : Int32} {post : Int32 → Int32 → Int32 → Int32 → Int32 → Nat → (Nat → Int64) → Nat → (Nat → Int32) → Nat → (Nat → Int32) → Nat → (Nat → Int32) → Nat → (Nat → Int32) → Prop}
    (hp : p < 64) (hfp : tb fl p = true) (hbx : sub bx fl) (hnb : cnt bx ≤ 12) (hlv : sub lv fl) (hm1 : 1 ≤ most) (hmost : most ≤ 10000) (hlen : lenOK nn N k) (hRr : srchF fl gl lv bx most W p = R) (hres : resOK R ln) (hb : bud nn R.1.1 bc bs)
    (h : ∀ nn' N' k' sb' sl' sp' su' ss', lenOK nn' N' k' → nn' = nnF nn R.1.1 → pathOK ln (pthR R ln) nn' (fdI R.2 R.1.1) sp' su' → post (ansR R ln) (nI R.1.1) (nI ln) (fdI R.2 R.1.1) (ovI R.2) nn' sb' nn' sl' nn' sp' nn' su' N' ss') :
    PB_search (nI W) fl gl lv bx (bit p) (sh lv 0 ||| sh lv 2) (sh lv 1 ||| sh lv 3) ct0 ln0 fd0 ov0 nn sb nn sl nn sp nn su N ss (nI most) bc bs post := by
  have hK : rK fl (cnt bx) most R := by rw [← hRr]; exact srch_k hp hfp hbx hm1 hlv
  obtain ⟨n1, n2, n3, n4⟩ := hlen.N
  have hNb : N ≤ 16384 := by rw [n1]; exact Nat.pow_le_pow_right (n := 2) (by decide) n2
  unfold PB_search
  rw [if_neg (show ¬ nI most < (1 : Int32) from nI_nlt hm1 (by omega)), if_neg (show ¬ (10000 : Int32) < nI most from nI_nlt hmost (by decide))]
  unfold BO_isThere
  rw [if_neg (bit_ne0 hp)]
  dsimp only
  rw [if_neg one_ne0]
  refine ⟨bc, bs, Nat.le_refl _, Nat.le_refl _, by omega, fun ss1 e1 => ?_⟩
  refine BO_reach_low hp (fun hX hlow => ?_)
  refine PB_spotOf_spec hlow ⟨0, 0, Nat.zero_le _, Nat.zero_le _, ?_⟩
  have hc0 : cRel 0 (fun _ => 0) (fun _ => 0) (fun _ => 0) (fun _ => 0) nn N k sb sl sp su ss1 := by
    refine ⟨hlen, Nat.zero_le _, fun i h => absurd h (Nat.not_lt_zero _), fun i h => absurd h (Nat.not_lt_zero _), fun i h => absurd h (Nat.not_lt_zero _), fun i h => absurd h (Nat.not_lt_zero _), fun _ => 0, fun s hs => ?_, tOK_0 _ _⟩
    rw [e1]
    exact if_pos hs
  refine SE_takeIn_spec (m := 0) (par := 0) hc0 (by decide) (fun i h => absurd h (Nat.not_lt_zero _)) (fun i j _ h => absurd h (Nat.not_lt_zero _)) hlow.1 rfl (fun _ h => absurd h (by decide)) (fun N' k' sb' sl' sp' su' ss' hc' => ?_)
  have eg : grow nn 0 = nn := by unfold grow; rw [if_neg (by omega)]
  rw [eg] at hc' ⊢
  have hc1 : cRelS (stS0 fl bx p) nn N' k' sb' sl' sp' su' ss' := hc'
  have hnn1 : nn = nnF nn (stS0 fl bx p).1 := (nnF_rf hlen (show 1 ≤ nn by rcases hlen.two with a | a <;> omega)).symm
  have fin : ∀ bc bs nn1 N k sb sl sp su ss, cRelS R.1 nn1 N k sb sl sp su ss → nn1 = nnF nn R.1.1 → SE_run_122 (nI W) fl gl lv bx (bit p) (sh lv 0 ||| sh lv 2) (sh lv 1 ||| sh lv 3) post bc bs (nI R.1.1) (0 : Int32) (fdI R.2 R.1.1) (ovI R.2) nn1 sb nn1 sl nn1 sp nn1 su N ss := fun bc bs nn1 N k sb sl sp su ss r1 r2 => cls_122 hK hres r1 (fun hpa => h nn1 N k sb sl sp su ss r1.1 r2 hpa)
  refine BO_isDone_spec (fun d => ?_) (fun d => ?_)
  · rw [if_neg one_ne0]
    unfold srchF at hRr
    rw [if_pos d] at hRr
    have hx := fin (bc - 0) (bs - 0) nn N' k' sb' sl' sp' su' ss' (by rw [← hRr]; exact hc1) (by rw [← hRr]; exact hnn1)
    rw [← hRr] at hx
    refine ⟨1, ?_⟩
    unfold SE_run_74
    rw [if_neg (show ¬ nI (0 + 1) ≤ 0 by decide), if_neg (show ¬ (10000 : Int32) ≤ 0 by decide), if_pos (show (0 : Int32) ≤ 0 by decide)]
    exact hx
  · rw [if_pos rfl]
    unfold srchF at hRr
    rw [if_neg d] at hRr
    exact ⟨10002, cls_bfs hlv hnb hmost (Nat.le_refl _) fin 10001 0 (stS0 fl bx p) (bc - 0) (bs - 0) nn N' k' sb' sl' sp' su' ss' (by omega) (Nat.zero_le _) hRr hc1 (stS0_k hp hfp hbx hm1) hb hnn1⟩
/-! the reference -/
theorem ref_fill {fl gl bx : Int64} {W H : Nat} {ps mm0 v1 : Int32} {xb : Nat → Int64} {xc xf xy : Nat → Int32} {post : Int32 → Int32 → (Nat → Int64) → (Nat → Int32) → (Nat → Int32) → (Nat → Int32) → (Nat → Int32) → Prop}
    (h : ∀ xs, (∀ s, s < 32768 → xs s = -1) → MO_isNew (nI W) (nI H) fl (0 : Int32) xb xc xf xy xs bx ps (-1 : Int32) (0 : Int32) (fun r_1 mo_many_2 aXB_3 aXC_4 aXF_5 aXY_6 aXS_7 =>
  MO_isDone gl bx (fun r_8 =>
  if r_8 = 0 then
  (MO_live (nI W) (nI H) fl gl (fun r_9 =>
  (∃ n', MO_spread_62 (nI W) (nI H) ps fl gl bx post n' mo_many_2 aXB_3 aXC_4 aXF_5 aXY_6 aXS_7 v1 r_9 (0 : Int32))))
  else
  (post (0 : Int32) mo_many_2 aXB_3 aXC_4 aXF_5 aXY_6 aXS_7)))) :
    ∀ n v xs, v ≤ 32768 → 32768 < v + n → (∀ s, s < v → xs s = -1) → MO_spread_2 (nI W) (nI H) ps fl gl bx post n mm0 xb xc xf xy xs v1 (nI v) := by
  intro n
  induction n with
  | zero => intro v xs h1 h2; omega
  | succ n ih =>
    intro v xs h1 h2 hx
    unfold MO_spread_2
    by_cases q : 32768 ≤ v
    · rw [if_pos (kL q (by omega))]
      exact h xs (fun s hs => hx s (by omega))
    · rw [if_neg (kG (k := 32768) (by omega) (by decide))]
      refine ⟨vp_inN (by omega) (by decide), fun xs' e => ?_⟩
      rw [nI_clamp (by omega)] at e
      rw [nI_1]
      refine ih (v + 1) xs' (by omega) (by omega) (fun s hs => ?_)
      rw [e]
      by_cases es : s = v
      · rw [es, upd_same]
      · rw [upd_other _ _ es]; exact hx s (by omega)
theorem MO_spread_spec {fl gl lv bx : Int64} {most W H p : Nat} {mm0 : Int32} {R : SSt × Nat} {xb : Nat → Int64} {xc xf xy xs : Nat → Int32} {post : Int32 → Int32 → (Nat → Int64) → (Nat → Int32) → (Nat → Int32) → (Nat → Int32) → (Nat → Int32) → Prop}
    (hW : W ≤ 8) (hH : H ≤ 8) (hfl : onB W H fl) (hgl : sub gl fl) (hp : p < 64) (hfp : tb fl p = true) (hbx : sub bx fl) (hlv : isCl (El fl) gl lv) (hm1 : 1 ≤ most) (hmost : most ≤ 10000) (hRr : srchF fl gl lv bx most W p = R)
    (h0 : R.2 = 0 → ∀ xb xc xf xy xs, rRelS R.1 xb xc xf xy xs → post (-1) (nI R.1.1) xb xc xf xy xs)
    (h1 : R.2 = 1 → ∀ xb xc xf xy xs, rRelS R.1 xb xc xf xy xs → post (nI (R.1.1 - 1)) (nI R.1.1) xb xc xf xy xs)
    (h2 : R.2 = 2 → ∀ mm xb xc xf xy xs, post (-2) mm xb xc xf xy xs) :
    MO_spread (nI W) (nI H) (nI p) fl gl bx mm0 xb xc xf xy xs (nI most) post := by
  refine ⟨32769, ref_fill (fun xs hxs => ?_) 32769 0 xs (by decide) (by decide) (fun s hs => absurd hs (Nat.not_lt_zero _))⟩
  refine MO_isNew_spec (m := 0) (par := 0) (SB := fun _ => 0) (SL := fun _ => 0) (SP := fun _ => 0) (SU := fun _ => 0) hW hH hfl hp hfp ⟨fun i h => absurd h (Nat.not_lt_zero _), fun i h => absurd h (Nat.not_lt_zero _), fun i _ h => absurd h (Nat.not_lt_zero _), fun i h => absurd h (Nat.not_lt_zero _), fun _ => 0, fun s hs => ?_, tOK_0 _ _⟩ (by decide) (fun i h => absurd h (Nat.not_lt_zero _)) (fun h => absurd h (Nat.lt_irrefl _)) (fun hk => ?_) (fun _ xb' xc' xf' xy' xs' r1 => ?_)
  · rw [hxs s hs]; rfl
  · exact Bool.noConfusion hk
  · have r1' : rRelS (stS0 fl bx p) xb' xc' xf' xy' xs' := r1
    refine MO_isDone_spec (fun d => ?_) (fun d => ?_)
    · rw [if_neg one_ne0]
      unfold srchF at hRr
      rw [if_pos d] at hRr
      have hx := h1 (by rw [← hRr]) xb' xc' xf' xy' xs' (by rw [← hRr]; exact r1')
      rw [← hRr] at hx
      exact hx
    · rw [if_pos rfl]
      unfold srchF at hRr
      rw [if_neg d] at hRr
      refine MO_live_spec hW hH hfl (hfl.sub hgl) (fun X hX => ?_)
      have : X = lv := hX.uniq hlv
      subst this
      exact ⟨10001, ref_bfs hW hH hfl (live_sub (W := W) (H := H) hlv hgl) hmost h0 h1 h2 10001 0 (stS0 fl bx p) xb' xc' xf' xy' xs' (by omega) (Nat.zero_le _) hRr r1' (stS0_k hp hfp hbx hm1)⟩
theorem ref_96 {SP : Nat → Nat} {SU : Nat → Int32} {m i ln W H : Nat} {ib ps th mm tk len : Int32} {fl gl bx : Int64} {xb : Nat → Int64} {xc xf xy xs : Nat → Int32} {post : Int32 → Int32 → Int32 → Int32 → Int32 → (Nat → Int64) → (Nat → Int32) → (Nat → Int32) → (Nat → Int32) → (Nat → Int32) → (Nat → Int32) → Prop}
    (hpar : ∀ i, i < m → 0 < i → SP i < i) (hi : i < m) (hm : m ≤ 10000) (hl : isLen SP i ln) (hf : ∀ i, 0 < i → i < m → xf i = nI (SP i)) (hy : ∀ i, i < m → xy i = SU i)
    (h : ∀ xp, (∀ j, j < ln → xp j = SU (anc SP i (ln - 1 - j))) → post len th mm tk len xb xc xf xy xs xp) :
    ∀ n j xp, ln < j + n → j ≤ ln → (∀ q, ln - j ≤ q → q < ln → xp q = SU (anc SP i (ln - 1 - q))) → MO_search_96 ib (nI W) (nI H) ps fl gl bx post n th mm tk len xb xc xf xy xs xp (nI (ln - j)) (nI (anc SP i j)) := by
  have hb : ∀ j, j ≤ ln → anc SP i j + j ≤ i := fun j hj => anc_bd hpar hi j (fun k hk => hl.2 k (by omega))
  intro n
  induction n with
  | zero => intro j xp h1 h2; omega
  | succ n ih =>
    intro j xp h1 h2 hx
    have hbj := hb j h2
    have hbl := hb ln (Nat.le_refl _)
    unfold MO_search_96
    by_cases q : anc SP i j = 0
    · rw [if_pos ((le0 (by omega)).mpr q)]
      have : j = ln := by
        apply Classical.byContradiction
        intro e
        have := hl.2 j (by omega)
        omega
      exact h xp (fun q hq => hx q (by omega) hq)
    · rw [if_neg (fun e => q ((le0 (by omega)).mp e))]
      have hne : ¬ j = ln := fun e => q (by rw [e]; exact hl.1)
      refine ⟨vp_inN (by omega) (by decide), fun x ex => ?_⟩
      rw [nI_prd (by omega)]
      refine ⟨vp_inN (by omega) (by decide), fun xp' ep => ⟨vp_inN (by omega) (by decide), fun v4 e4 => ?_⟩⟩
      rw [nI_clamp (by omega)] at ex ep e4
      rw [hf _ (by omega) (by omega)] at e4
      rw [hy _ (by omega)] at ex
      rw [e4, show ln - j - 1 = ln - (j + 1) by omega]
      refine ih (j + 1) xp' (by omega) (by omega) (fun q' g1 g2 => ?_)
      rw [ep, ex]
      by_cases e : q' = ln - j - 1
      · rw [e, upd_same, show ln - 1 - (ln - j - 1) = j by omega]
      · rw [upd_other _ _ e]; exact hx q' (by omega) g2
theorem ref_64 {SP : Nat → Nat} {SU : Nat → Int32} {m i ln W H : Nat} {ib ps th mm tk : Int32} {fl gl bx : Int64} {xb : Nat → Int64} {xc xf xy xs xp : Nat → Int32} {post : Int32 → Int32 → Int32 → Int32 → Int32 → (Nat → Int64) → (Nat → Int32) → (Nat → Int32) → (Nat → Int32) → (Nat → Int32) → (Nat → Int32) → Prop}
    (hpar : ∀ i, i < m → 0 < i → SP i < i) (hi : i < m) (hm : m ≤ 10000) (hl : isLen SP i ln) (hf : ∀ i, 0 < i → i < m → xf i = nI (SP i)) (hy : ∀ i, i < m → xy i = SU i)
    (h : ∀ xp, (∀ j, j < ln → xp j = SU (anc SP i (ln - 1 - j))) → post (nI ln) th mm tk (nI ln) xb xc xf xy xs xp) :
    ∀ n j, ln < j + n → j ≤ ln → MO_search_64 ib (nI W) (nI H) ps fl gl bx post n th mm tk (nI j) xb xc xf xy xs xp (nI i) (nI (anc SP i j)) := by
  have hb : ∀ j, j ≤ ln → anc SP i j + j ≤ i := fun j hj => anc_bd hpar hi j (fun k hk => hl.2 k (by omega))
  intro n
  induction n with
  | zero => intro j h1 h2; omega
  | succ n ih =>
    intro j h1 h2
    have hbj := hb j h2
    unfold MO_search_64
    by_cases q : anc SP i j = 0
    · rw [if_pos ((le0 (by omega)).mpr q)]
      have : j = ln := by
        apply Classical.byContradiction
        intro e
        have := hl.2 j (by omega)
        omega
      subst this
      exact ⟨j + 1, ref_96 hpar hi hm hl hf hy h (j + 1) 0 xp (by omega) (by omega) (fun q g1 g2 => by omega)⟩
    · rw [if_neg (fun e => q ((le0 (by omega)).mp e))]
      have hne : ¬ j = ln := fun e => q (by rw [e]; exact hl.1)
      intro len el
      refine ⟨vp_inN (by omega) (by decide), fun v3 e3 => ?_⟩
      rw [nI_clamp (by omega), hf _ (by omega) (by omega)] at e3
      rw [nI_1] at el
      rw [el, e3]
      exact ih (j + 1) (by omega) (by omega)
theorem MO_search_spec {fl gl lv bx : Int64} {most W H p ln : Nat} {th mm0 tk0 ln0 : Int32} {R : SSt × Nat} {xb : Nat → Int64} {xc xf xy xs xp : Nat → Int32} {post : Int32 → Int32 → Int32 → Int32 → Int32 → (Nat → Int64) → (Nat → Int32) → (Nat → Int32) → (Nat → Int32) → (Nat → Int32) → (Nat → Int32) → Prop}
    (hW : W ≤ 8) (hH : H ≤ 8) (hfl : onB W H fl) (hgl : sub gl fl) (hp : p < 64) (hfp : tb fl p = true) (hbx : sub bx fl) (hlv : isCl (El fl) gl lv) (hm1 : 1 ≤ most) (hmost : most ≤ 10000) (hRr : srchF fl gl lv bx most W p = R) (hres : resOK R ln)
    (h : ∀ mm xb' xc' xf' xy' xs' xp', (∀ i, i < ln → xp' i = pthR R ln i) → post (ansR R ln) 0 mm (nI R.1.1) (nI ln) xb' xc' xf' xy' xs' xp') :
    MO_search 1 (nI W) (nI H) (nI p) fl gl bx th mm0 tk0 ln0 xb xc xf xy xs xp (nI most) post := by
  have hK : rK fl (cnt bx) most R := by rw [← hRr]; exact srch_k hp hfp hbx hm1 (live_sub (W := W) (H := H) hlv hgl)
  unfold MO_search
  rw [if_neg one_ne0, if_neg (show ¬ nI most < (1 : Int32) from nI_nlt hm1 (by omega)), if_pos (show nI most ≤ (10000 : Int32) from nI_le hmost (by decide))]
  unfold ansR at h
  have hm := hK.1.2
  refine MO_spread_spec hW hH hfl hgl hp hfp hbx hlv hm1 hmost hRr (fun e xb' xc' xf' xy' xs' r1 => ?_) (fun e xb' xc' xf' xy' xs' r1 => ?_) (fun e mm xb' xc' xf' xy' xs' => ?_)
  · rw [if_neg (by decide)]
    unfold MO_search_48
    rw [if_neg le_neg1]
    have hl := hres.2 (by omega)
    subst hl
    rw [if_neg (by omega), if_neg (by omega)] at h
    exact h _ _ _ _ _ _ _ (fun i hi => absurd hi (Nat.not_lt_zero _))
  · have h0 := hK.2.2.1 e
    rw [if_neg (fun q => by
      have := nI_nonneg (k := R.1.1 - 1) (by omega)
      rw [q] at this
      exact absurd this (by decide))]
    unfold MO_search_48
    rw [if_pos (nI_nonneg (by omega))]
    rw [if_pos e] at h
    exact ⟨ln + 1, ref_64 hK.par (by omega) (by omega) (hres.1 e) r1.2.2.1 r1.2.2.2.1 (fun xp' hx => h _ _ _ _ _ _ _ hx) (ln + 1) 0 (by omega) (Nat.zero_le _)⟩
  · rw [if_pos rfl]
    unfold MO_search_48
    rw [if_neg (by decide)]
    have hl := hres.2 (by omega)
    subst hl
    rw [if_neg (by omega), if_pos e, hK.2.2.2 e] at h
    exact h _ _ _ _ _ _ _ (fun i hi => absurd hi (Nat.not_lt_zero _))
