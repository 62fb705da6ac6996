/-! the program's loops -/
theorem any_sh {c w : Nat} {X : Int64} (hc : c < 64) (hw : w < 4) : sh (bit c) w &&& X = 0 ↔ (nb w c).any (fun j => tb X j) = false := by
  cases e : nb w c with
  | none => rw [sh_none hw hc e]; exact ⟨fun _ => rfl, fun _ => tb_eq0 fun i _ => by rw [tb_and, tb_zero]; rfl⟩
  | some t =>
    have ht := nb_lt w hw c hc t e
    rw [sh_some hw hc e, bit_and ht]
    show _ ↔ tb X t = false
    cases q : tb X t with
    | true => rw [if_pos rfl]; exact ⟨fun h => absurd h (bit_ne0 ht), fun h => by cases h⟩
    | false => rw [if_neg (by decide)]; exact ⟨fun _ => rfl, fun _ => rfl⟩
theorem nI_nonneg {k : Nat} (h : k < 2 ^ 31) : (0 : Int32) ≤ nI k := nI_le (Nat.zero_le _) h
theorem cls_way {fl gl lv B X : Int64} {most W nb' par c M nn0 : Nat} {R : SSt × Nat} {k40 : Nat → Nat → Int32 → Int32 → Int32 → Nat → (Nat → Int64) → Nat → (Nat → Int32) → Nat → (Nat → Int32) → Nat → (Nat → Int32) → Nat → (Nat → Int32) → Int32 → Int32 → Int64 → Int64 → Int64 → Int32 → Prop} {post : Int32 → Int32 → Int32 → Nat → (Nat → Int64) → Nat → (Nat → Int32) → Nat → (Nat → Int32) → Nat → (Nat → Int32) → Nat → (Nat → Int32) → Prop}
    (hc : c < 64) (hlv : sub lv fl) (hB : sub B fl) (hBn : cnt B = nb') (hbc : tb B c = true) (hnb : nb' ≤ 12) (hmost : most ≤ 10000) (hM : R.1.1 ≤ M)
    (h0 : R.2 = 0 → ∀ bc bs nn N k sb sl sp su ss, cRelS R.1 nn N k sb sl sp su ss → bud nn M bc bs → nn = nnF nn0 R.1.1 → k40 bc bs (nI R.1.1) (-1) 0 nn sb nn sl nn sp nn su N ss (nI par) (nI most) B X (lv &&& (B ^^^ (-1))) (nI (c + 1)))
    (h1 : ¬ R.2 = 0 → ∀ nn N k sb sl sp su ss, cRelS R.1 nn N k sb sl sp su ss → nn = nnF nn0 R.1.1 → post (nI R.1.1) (fdI R.2 R.1.1) (ovI R.2) nn sb nn sl nn sp nn su N ss) :
    ∀ n w S bc bs nn N k sb sl sp su ss, w + n = 4 → wayL fl gl lv most W B X par c n w S = R → cRelS S nn N k sb sl sp su ss → sK fl nb' most S → par < S.1 → bud nn M bc bs → nn = nnF nn0 S.1 →
    SE_pushFrom_69 (nI W) fl gl lv (sh lv 0 ||| sh lv 2) (sh lv 1 ||| sh lv 3) k40 post (n + 1) bc bs (nI S.1) (-1) 0 nn sb nn sl nn sp nn su N ss (nI par) (nI most) B X (lv &&& (B ^^^ (-1))) (nI c) (bit c) (nI w) := by
  intro n
  induction n with
  | zero =>
    intro w S bc bs nn N k sb sl sp su ss hw hF hR hs hp hb hnn
    have hw4 : w = 4 := by omega
    subst hw4
    unfold SE_pushFrom_69
    rw [if_pos (kL (Nat.le_refl 4) (by decide)), nI_1]
    have e1 : R = (S, 0) := hF.symm
    have := h0 (by rw [e1]) bc bs nn N k sb sl sp su ss (by rw [e1]; exact hR) hb (by rw [e1]; exact hnn)
    rw [e1] at this
    exact this
  | succ n ih =>
    intro w S bc bs nn N k sb sl sp su ss hw hF hR hs hp hb hnn
    have hw4 : w < 4 := by omega
    unfold wayL at hF
    unfold SE_pushFrom_69
    rw [if_neg (kG hw4 (by decide)), nI_1]
    refine PB_shifted_spec hw4 (fun v14 e14 => ?_)
    have skip : pshF lv B X c w = none → SE_pushFrom_69 (nI W) fl gl lv (sh lv 0 ||| sh lv 2) (sh lv 1 ||| sh lv 3) k40 post (n + 1) bc bs (nI S.1) (-1) 0 nn sb nn sl nn sp nn su N ss (nI par) (nI most) B X (lv &&& (B ^^^ (-1))) (nI c) (bit c) (nI (w + 1)) := fun e => by
      rw [e] at hF
      exact ih (w + 1) S bc bs nn N k sb sl sp su ss (by omega) hF hR hs hp hb hnn
    cases e : nb w c with
    | none =>
      have z : v14 = 0 := by rw [e14]; exact (any_sh hc hw4).mpr (by rw [e]; rfl)
      rw [if_pos z]
      exact skip (by unfold pshF; rw [e])
    | some t =>
      have ht := nb_lt w hw4 c hc t e
      rw [sh_some hw4 hc e, bit_and ht] at e14
      by_cases q : tb (lv &&& (B ^^^ (-1))) t = true
      · rw [if_pos q] at e14
        subst e14
        rw [if_neg (bit_ne0 ht)]
        rw [tb_diff, Bool.and_eq_true, Bool.not_eq_true'] at q
        refine PB_against_spec hw4 (PB_shifted_spec (opp_lt w) ?_)
        by_cases g : (nb (opp w) c).any (fun j => tb X j) = true
        · rw [if_neg (fun h => by rw [(any_sh hc (opp_lt w)).mp h] at g; cases g)]
          have hps : pshF lv B X c w = some t := by unfold pshF; rw [e]; exact if_pos ⟨q.1, q.2, g⟩
          rw [hps] at hF
          dsimp only at hF
          obtain ⟨q1, q2, q3⟩ := psh_box hc hw4 hlv hB hBn hbc hps
          obtain ⟨k1, k2⟩ := comeF_k (gl := gl) (lv := lv) (pu := puI W c w) hs hc (hB c hc hbc) q2 q3 hp
          refine BO_cellOf_spec hc ?_
          rw [xor_move2 hc ht (fun h => nb_ne w hw4 c hc (by rw [e, h])) hbc q.2]
          generalize hQ : comeF fl gl lv most S ((B &&& (bit c ^^^ (-1))) ||| bit t) c par (puI W c w) = Q at hF k1 k2
          have hle : Q.1.1 ≤ R.1.1 := by
            by_cases z : Q.2 = 0
            · rw [if_pos z] at hF
              rw [← hF]
              exact (wayL_k hc hlv hB hBn hbc n (w + 1) Q.1 (by omega) k1 (Nat.lt_of_lt_of_le hp k2.1)).2.1
            · rw [if_neg z] at hF; rw [hF]; exact Nat.le_refl _
          obtain ⟨b, s, b1, b2, b3, b4⟩ := bud_split hR.1.two hb (Nat.le_trans hle hM)
          refine ⟨b, s, b1, b2, ?_⟩
          refine come_cls hR hs hnb hmost hc (hB c hc hbc) q2 q3 hp hQ b3 (fun nn' N' k' sb' sl' sp' su' ss' r1 r2 => ?_)
          have r3 : nn' = nnF nn0 Q.1.1 := by rw [r2, hnn, nnF_tr k2.1]
          have k22 := k2.2.1
          by_cases z : Q.2 = 0
          · rw [if_pos z] at hF
            rw [z, fd_neg (by decide), ov_0 (by decide), if_neg le_neg1, if_pos rfl]
            exact ih (w + 1) Q.1 (bc - b) (bs - s) nn' N' k' sb' sl' sp' su' ss' (by omega) hF r1 k1 (Nat.lt_of_lt_of_le hp k2.1) (by rw [r2]; exact b4 M hb) r3
          · rw [if_neg z] at hF
            subst hF
            have hp1 := h1 z nn' N' k' sb' sl' sp' su' ss' r1 r3
            by_cases z1 : Q.2 = 1
            · have : fdI Q.2 Q.1.1 = nI (Q.1.1 - 1) := if_pos z1
              have k12 := k1.2
              rw [if_pos (by rw [this]; exact nI_nonneg (by omega))]
              exact hp1
            · have z2 : Q.2 = 2 := by omega
              rw [if_neg (by rw [fd_neg z1]; exact le_neg1), if_neg (by rw [show ovI Q.2 = 1 from if_pos z2]; exact one_ne0)]
              exact hp1
        · have g' := Bool.eq_false_iff.mpr g
          rw [if_pos ((any_sh hc (opp_lt w)).mpr g')]
          exact skip (by unfold pshF; rw [e]; exact if_neg (fun h => g h.2.2))
      · rw [if_neg q] at e14
        rw [if_pos e14]
        exact skip (by unfold pshF; rw [e]; exact if_neg (fun h => q (by rw [tb_diff, h.1, h.2.1]; rfl)))
theorem cls_cell {fl gl lv B X : Int64} {most W nb' par M nn0 : Nat} {R : SSt × Nat} {post : Int32 → Int32 → Int32 → Nat → (Nat → Int64) → Nat → (Nat → Int32) → Nat → (Nat → Int32) → Nat → (Nat → Int32) → Nat → (Nat → Int32) → Prop}
    (hlv : sub lv fl) (hB : sub B fl) (hBn : cnt B = nb') (hnb : nb' ≤ 12) (hmost : most ≤ 10000) (hM : R.1.1 ≤ M)
    (h1 : ∀ nn N k sb sl sp su ss, cRelS R.1 nn N k sb sl sp su ss → nn = nnF nn0 R.1.1 → post (nI R.1.1) (fdI R.2 R.1.1) (ovI R.2) nn sb nn sl nn sp nn su N ss) :
    ∀ n c S bc bs nn N k sb sl sp su ss, c + n = 64 → cellL fl gl lv most W B X par n c S = R → cRelS S nn N k sb sl sp su ss → sK fl nb' most S → par < S.1 → bud nn M bc bs → nn = nnF nn0 S.1 →
    SE_pushFrom_40 (nI W) fl gl lv (sh lv 0 ||| sh lv 2) (sh lv 1 ||| sh lv 3) post (n + 1) bc bs (nI S.1) (-1) 0 nn sb nn sl nn sp nn su N ss (nI par) (nI most) B X (lv &&& (B ^^^ (-1))) (nI c) := by
  intro n
  induction n with
  | zero =>
    intro c S bc bs nn N k sb sl sp su ss hc hF hR hs hp hb hnn
    have hc64 : c = 64 := by omega
    subst hc64
    unfold SE_pushFrom_40
    rw [if_pos (kL (Nat.le_refl 64) (by decide))]
    have e1 : R = (S, 0) := hF.symm
    have := h1 nn N k sb sl sp su ss (by rw [e1]; exact hR) (by rw [e1]; exact hnn)
    rw [e1] at this
    exact this
  | succ n ih =>
    intro c S bc bs nn N k sb sl sp su ss hc hF hR hs hp hb hnn
    have hc64 : c < 64 := by omega
    unfold cellL at hF
    unfold SE_pushFrom_40
    rw [if_neg (kG hc64 (by decide)), nI_1]
    refine PB_has_spec hc64 ?_
    by_cases q : tb B c = true
    · rw [if_pos q] at hF
      rw [q, if_neg b01T]
      intro v11 e11
      have e11' : v11 = bit c := e11
      subst e11'
      obtain ⟨k1, k2⟩ := wayL_k (gl := gl) (W := W) (X := X) hc64 hlv hB hBn q 4 0 S rfl hs hp
      generalize hQ : wayL fl gl lv most W B X par c 4 0 S = Q at hF k1 k2
      have hle : Q.1.1 ≤ R.1.1 := by
        by_cases z : Q.2 = 0
        · rw [if_pos z] at hF
          rw [← hF]
          exact (cellL_k hlv hB hBn n (c + 1) Q.1 (by omega) k1 (Nat.lt_of_lt_of_le hp k2.1)).2.1
        · rw [if_neg z] at hF; rw [hF]; exact Nat.le_refl _
      refine ⟨5, cls_way hc64 hlv hB hBn q hnb hmost (Nat.le_trans hle hM) (fun z bc' bs' nn' N' k' sb' sl' sp' su' ss' r1 r2 r3 => ?_) (fun z nn' N' k' sb' sl' sp' su' ss' r1 r3 => ?_) 4 0 S bc bs nn N k sb sl sp su ss rfl hQ hR hs hp hb hnn⟩
      · rw [if_pos z] at hF
        exact ih (c + 1) Q.1 bc' bs' nn' N' k' sb' sl' sp' su' ss' (by omega) hF r1 k1 (Nat.lt_of_lt_of_le hp k2.1) r2 r3
      · rw [if_neg z] at hF
        subst hF
        exact h1 nn' N' k' sb' sl' sp' su' ss' r1 r3
    · rw [if_neg q] at hF
      rw [Bool.eq_false_iff.mpr q, if_pos b01F]
      exact ih (c + 1) S bc bs nn N k sb sl sp su ss (by omega) hF hR hs hp hb hnn
theorem cls_from {fl gl lv : Int64} {most W nb' i nn N k bc bs : Nat} {S : SSt} {R : SSt × Nat} {sb : Nat → Int64} {sl sp su ss : Nat → Int32} {post : Int32 → Int32 → Int32 → Nat → (Nat → Int64) → Nat → (Nat → Int32) → Nat → (Nat → Int32) → Nat → (Nat → Int32) → Nat → (Nat → Int32) → Prop}
    (hlv : sub lv fl) (hnb : nb' ≤ 12) (hmost : most ≤ 10000) (hF : fromL fl gl lv most W i S = R) (hR : cRelS S nn N k sb sl sp su ss) (hs : sK fl nb' most S) (hi : i < S.1) (hb : bud nn R.1.1 bc bs)
    (h1 : ∀ nn' N' k' sb' sl' sp' su' ss', cRelS R.1 nn' N' k' sb' sl' sp' su' ss' → nn' = nnF nn R.1.1 → post (nI R.1.1) (fdI R.2 R.1.1) (ovI R.2) nn' sb' nn' sl' nn' sp' nn' su' N' ss') :
    SE_pushFrom (nI W) fl gl lv (sh lv 0 ||| sh lv 2) (sh lv 1 ||| sh lv 3) (nI S.1) (-1) 0 nn sb nn sl nn sp nn su N ss (nI i) (nI most) bc bs post := by
  obtain ⟨a1, a2, a3, a4, a5, a6⟩ := hs.1.1 i hi
  have hm := hR.2.1
  obtain ⟨n1, n2, n3, n4⟩ := hR.1.N
  have hin : vp_in (nI i) nn := vp_inN (by omega) (by omega)
  refine ⟨hin, fun v4 e4 => ⟨hin, ?_⟩⟩
  rw [nI_clamp (by omega), hR.2.2.1 i hi] at e4
  rw [nI_clamp (by omega), hR.2.2.2.1 i hi]
  subst e4
  refine BO_reach_low a1 (fun hX hlow => ?_)
  intro v8 e8
  subst e8
  exact ⟨65, cls_cell hlv a4 a5 hnb hmost (Nat.le_refl _) h1 64 0 S bc bs nn N k sb sl sp su ss rfl hF hR hs hi hb (nnF_rf hR.1 hm).symm⟩
