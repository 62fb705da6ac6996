/-! reading and searching, both sides -/
theorem bInv_new {L x y wd ht p : Nat} {tx : Nat → Int32} {wl gl bx F lv : Int64} {M : Nat → Nat} (hL : 0 < L) (hI : RI tx L x y wd ht wl gl bx (some p)) (hg : cnt gl ≤ cnt bx) (hh : ht ≤ 8) (hF : flOK wd ht wl F) (hlv : isCl (El F) gl lv) : bInv wd ht F gl lv bx true p 0 M := by
  obtain ⟨r1, r2, r3, r4, r5, r6, r7, r8, r9, r10, r11, r12, r13⟩ := hI
  have hht : 0 < ht := by rw [r6, if_neg (by omega)]; omega
  have in1 : ∀ X, inR (8 * y + x) wd (ht - 1) X → (∀ i, i < 64 → tb X i = true → tb wl i = false) → sub X F := fun X hX hw i hi e => by
    obtain ⟨-, b, c⟩ := hX i hi e
    exact (hF i hi).mpr ⟨hw i hi e, b, by omega⟩
  have wg : ∀ i, i < 64 → tb gl i = true → tb wl i = false := fun i hi e => by
    cases q : tb wl i with
    | false => rfl
    | true => rw [(r13 i hi q).1] at e; cases e
  have wb : ∀ i, i < 64 → tb bx i = true → tb wl i = false := fun i hi e => by
    cases q : tb wl i with
    | false => rfl
    | true => rw [(r13 i hi q).2] at e; cases e
  obtain ⟨p1, p2, p3, p4, p5, p6⟩ := r10 p rfl
  exact ⟨r3, hh, fun i hi e => ((hF i hi).mp e).2, in1 gl r8 wg, in1 bx r9 wb, r12, hg, hlv, p2, Nat.zero_le _, fun _ => ⟨⟨p2, (hF p p2).mpr ⟨p5, p3, by omega⟩, p6, in1 bx r9 wb⟩, trivial⟩, fun e => by cases e⟩
theorem lInv_0 {M : Nat → Nat} {ma dn : Nat → Int32} : lInv 0 M 0 ma dn := ⟨⟨by decide, by decide, fun i h => absurd h (Nat.not_lt_zero _)⟩, fun i h => absurd h (Nat.not_lt_zero _)⟩
theorem read_both {W H p kp en L : Nat} {fl gl lv bx : Int64} {bd : Bool} {M : Nat → Nat} {tx ma dn : Nat → Int32} {mv pu : Int32} (hL : L ≤ 160) (hb : bInv W H fl gl lv bx bd p kp M) (hl : lInv kp M en ma dn) :
    ∃ r W' H' fl' gl' lv' bx' bd' p' kp' en' mv' pu',
      (∀ q1 q2 q3 q4 q5 q6 q7 q8 (post : Int32 → Int32 → Int32 → Int32 → Int64 → Int64 → Int64 → Int64 → Int32 → Int32 → Int32 → Int32 → Int64 → Int64 → Int64 → Int64 → Int64 → Int64 → Int64 → Int32 → Int32 → Int32 → Int32 → Prop), (bInv W' H' fl' gl' lv' bx' bd' p' kp' M → lInv kp' M en' ma dn → ∀ p1 p2 p3 p4 p5 p6 p7 p8, post r 0 p1 p2 p3 p4 p5 p6 p7 p8 (nI W') (nI H') fl' gl' lv' bx' (psL bd' p') (sh lv' 0 ||| sh lv' 2) (sh lv' 1 ||| sh lv' 3) (nI kp') mv' pu' (nI en')) → PB_read tx (nI L) q1 q2 q3 q4 q5 q6 q7 q8 (nI W) (nI H) fl gl lv bx (psL bd p) (sh lv 0 ||| sh lv 2) (sh lv 1 ||| sh lv 3) (nI kp) mv pu (nI en) post) ∧
      (∀ m1 m12 m13 m14 m15 m16 (post : Int32 → Int32 → Int32 → Int32 → Int32 → Int32 → Int32 → Int32 → Int32 → Int64 → Int64 → Int64 → Int64 → Int64 → Int64 → Int32 → Int32 → Int32 → Prop), (∀ n1 n2 n3 n4 n5, post r 0 0 (b01 bd') (nI W') (nI H') (nI p') mv' pu' fl' gl' bx' n1 n2 n3 n4 n5 (nI kp')) → MO_read tx m1 (nI L) (b01 bd) (nI W) (nI H) (nI p) mv pu fl gl bx m12 m13 m14 m15 m16 (nI kp) post) := by
  cases e : lkB tx L 0 st0 with
  | some j =>
    refine ⟨(-1 : Int32) - nI j, W, H, fl, gl, lv, bx, bd, p, kp, en, mv, pu, fun q1 q2 q3 q4 q5 q6 q7 q8 post h => ?_, fun m1 m12 m13 m14 m15 m16 post h => ?_⟩
    · refine PB_read_spec hL (fun j' e' _ p1 p2 p3 p4 p5 p6 p7 p8 => ?_) (fun e' => ?_) (fun e' => ?_)
      · rw [e] at e'; cases e'
        exact h hb hl p1 p2 p3 p4 p5 p6 p7 p8
      · rw [e] at e'; cases e'
      · rw [e] at e'; cases e'
    · refine MO_read_spec hL (fun j' e' _ n1 n2 n3 n4 n5 => ?_) (fun e' => ?_) (fun e' => ?_)
      · rw [e] at e'; cases e'
        exact h n1 n2 n3 n4 n5
      · rw [e] at e'; cases e'
      · rw [e] at e'; cases e'
  | none =>
    generalize eE : lkE tx L 0 st0 = E
    obtain ⟨x, y, wd, ht, wl, gl2, bx2, pe⟩ := E
    have refuse : (pe = none ∨ cnt bx2 < cnt gl2) → ∃ r W' H' fl' gl' lv' bx' bd' p' kp' en' mv' pu',
      (∀ q1 q2 q3 q4 q5 q6 q7 q8 (post : Int32 → Int32 → Int32 → Int32 → Int64 → Int64 → Int64 → Int64 → Int32 → Int32 → Int32 → Int32 → Int64 → Int64 → Int64 → Int64 → Int64 → Int64 → Int64 → Int32 → Int32 → Int32 → Int32 → Prop), (bInv W' H' fl' gl' lv' bx' bd' p' kp' M → lInv kp' M en' ma dn → ∀ p1 p2 p3 p4 p5 p6 p7 p8, post r 0 p1 p2 p3 p4 p5 p6 p7 p8 (nI W') (nI H') fl' gl' lv' bx' (psL bd' p') (sh lv' 0 ||| sh lv' 2) (sh lv' 1 ||| sh lv' 3) (nI kp') mv' pu' (nI en')) → PB_read tx (nI L) q1 q2 q3 q4 q5 q6 q7 q8 (nI W) (nI H) fl gl lv bx (psL bd p) (sh lv 0 ||| sh lv 2) (sh lv 1 ||| sh lv 3) (nI kp) mv pu (nI en) post) ∧
      (∀ m1 m12 m13 m14 m15 m16 (post : Int32 → Int32 → Int32 → Int32 → Int32 → Int32 → Int32 → Int32 → Int32 → Int64 → Int64 → Int64 → Int64 → Int64 → Int64 → Int32 → Int32 → Int32 → Prop), (∀ n1 n2 n3 n4 n5, post r 0 0 (b01 bd') (nI W') (nI H') (nI p') mv' pu' fl' gl' bx' n1 n2 n3 n4 n5 (nI kp')) → MO_read tx m1 (nI L) (b01 bd) (nI W) (nI H) (nI p) mv pu fl gl bx m12 m13 m14 m15 m16 (nI kp) post) := fun hbad => by
      refine ⟨-200, W, H, fl, gl, lv, bx, bd, p, kp, en, mv, pu, fun q1 q2 q3 q4 q5 q6 q7 q8 post h => ?_, fun m1 m12 m13 m14 m15 m16 post h => ?_⟩
      · refine PB_read_spec hL (fun j' e' => ?_) (fun _ x2 y2 wd2 ht2 wl2 gl3 bx3 pe2 e2 h2 p1 p2 p3 p4 p5 p6 p7 p8 => h hb hl p1 p2 p3 p4 p5 p6 p7 p8) (fun _ x2 y2 wd2 ht2 wl2 gl3 bx3 p2 F lv2 e2 h2 => ?_)
        · rw [e] at e'; cases e'
        · rw [eE] at e2; cases e2
          rcases hbad with q | q
          · cases q
          · omega
      · refine MO_read_spec hL (fun j' e' => ?_) (fun _ x2 y2 wd2 ht2 wl2 gl3 bx3 pe2 e2 h2 n1 n2 n3 n4 n5 => h n1 n2 n3 n4 n5) (fun _ x2 y2 wd2 ht2 wl2 gl3 bx3 p2 F e2 h2 => ?_)
        · rw [e] at e'; cases e'
        · rw [eE] at e2; cases e2
          rcases hbad with q | q
          · cases q
          · omega
    cases pe with
    | none => exact refuse (Or.inl rfl)
    | some p2 =>
      by_cases g : cnt bx2 < cnt gl2
      · exact refuse (Or.inr g)
      · have hL0 : 0 < L := by
          cases L with
          | zero => exact absurd eE (by intro q; cases q)
          | succ L => omega
        refine ⟨nI (cnt bx2), wd, ht, Classical.epsilon (flOK wd ht wl), gl2, Classical.epsilon (isCl (El (Classical.epsilon (flOK wd ht wl))) gl2), bx2, true, p2, 0, 0, 0, 0, fun q1 q2 q3 q4 q5 q6 q7 q8 post h => ?_, fun m1 m12 m13 m14 m15 m16 post h => ?_⟩
        · refine PB_read_spec hL (fun j' e' => ?_) (fun _ x2 y2 wd2 ht2 wl2 gl3 bx3 pe2 e2 h2 => ?_) (fun _ x2 y2 wd2 ht2 wl2 gl3 bx3 p3 F lv2 e2 h2 hI hh hF hlv p1 p2 p3 p4 p5 p6 p7 p8 => ?_)
          · rw [e] at e'; cases e'
          · rw [eE] at e2; cases e2
            rcases h2 with q | q
            · cases q
            · omega
          · rw [eE] at e2
            cases e2
            have eF := hF.uniq (Classical.epsilon_spec ⟨F, hF⟩)
            rw [← eF] at h
            have eV := hlv.uniq (Classical.epsilon_spec ⟨lv2, hlv⟩)
            rw [← eV] at h
            exact h (bInv_new hL0 hI h2 hh hF hlv) lInv_0 p1 p2 p3 p4 p5 p6 p7 p8
        · refine MO_read_spec hL (fun j' e' => ?_) (fun _ x2 y2 wd2 ht2 wl2 gl3 bx3 pe2 e2 h2 => ?_) (fun _ x2 y2 wd2 ht2 wl2 gl3 bx3 p3 F e2 h2 hI hh hF n1 n2 n3 n4 n5 => ?_)
          · rw [e] at e'; cases e'
          · rw [eE] at e2; cases e2
            rcases h2 with q | q
            · cases q
            · omega
          · rw [eE] at e2
            cases e2
            have eF := hF.uniq (Classical.epsilon_spec ⟨F, hF⟩)
            rw [← eF] at h
            exact h n1 n2 n3 n4 n5
theorem search_both {W H p kp : Nat} {fl gl lv bx : Int64} {bd : Bool} {M : Nat → Nat} {v : Int32} (hb : bInv W H fl gl lv bx bd p kp M) :
    ((∀ ct0 ln0 fd0 ov0 nn N sb sl sp su ss bc bs (post : Int32 → Int32 → Int32 → Int32 → Int32 → Nat → (Nat → Int64) → Nat → (Nat → Int32) → Nat → (Nat → Int32) → Nat → (Nat → Int32) → Nat → (Nat → Int32) → Prop), post (-3) ct0 ln0 fd0 ov0 nn sb nn sl nn sp nn su N ss → PB_search (nI W) fl gl lv bx (psL bd p) (sh lv 0 ||| sh lv 2) (sh lv 1 ||| sh lv 3) ct0 ln0 fd0 ov0 nn sb nn sl nn sp nn su N ss v bc bs post) ∧
      (∀ th mm tk ln xb xc xf xy xs xp (post : Int32 → Int32 → Int32 → Int32 → Int32 → (Nat → Int64) → (Nat → Int32) → (Nat → Int32) → (Nat → Int32) → (Nat → Int32) → (Nat → Int32) → Prop), post (-3) 0 mm tk ln xb xc xf xy xs xp → MO_search (b01 bd) (nI W) (nI H) (nI p) fl gl bx th mm tk ln xb xc xf xy xs xp v post)) ∨
    ∃ r ct ln pth, ln ≤ 10000 ∧
      (∀ ct0 ln0 fd0 ov0 nn N k sb sl sp su ss bc bs (post : Int32 → Int32 → Int32 → Int32 → Int32 → Nat → (Nat → Int64) → Nat → (Nat → Int32) → Nat → (Nat → Int32) → Nat → (Nat → Int32) → Nat → (Nat → Int32) → Prop), lenOK nn N k → bud nn ct bc bs → (∀ nn' N' k' fd ov sb' sl' sp' su' ss', lenOK nn' N' k' → nn' = nnF nn ct → pathOK ln pth nn' fd sp' su' → post r (nI ct) (nI ln) fd ov nn' sb' nn' sl' nn' sp' nn' su' N' ss') → PB_search (nI W) fl gl lv bx (psL bd p) (sh lv 0 ||| sh lv 2) (sh lv 1 ||| sh lv 3) ct0 ln0 fd0 ov0 nn sb nn sl nn sp nn su N ss v bc bs post) ∧
      (∀ th mm tk ln0 xb xc xf xy xs xp (post : Int32 → Int32 → Int32 → Int32 → Int32 → (Nat → Int64) → (Nat → Int32) → (Nat → Int32) → (Nat → Int32) → (Nat → Int32) → (Nat → Int32) → Prop), (∀ mm' xb' xc' xf' xy' xs' xp', (∀ i, i < ln → xp' i = pth i) → post r 0 mm' (nI ct) (nI ln) xb' xc' xf' xy' xs' xp') → MO_search (b01 bd) (nI W) (nI H) (nI p) fl gl bx th mm tk ln0 xb xc xf xy xs xp v post) := by
  obtain ⟨a1, a2, a3, a4, a5, a6, a7, a8, a9, a10, a11, a12⟩ := hb
  cases bd with
  | false =>
    left
    refine ⟨fun ct0 ln0 fd0 ov0 nn N sb sl sp su ss bc bs post h => ?_, fun th mm tk ln xb xc xf xy xs xp post h => ?_⟩
    · unfold PB_search
      split
      · exact h
      · split
        · exact h
        · refine BO_isThere_spec a9 ?_
          rw [if_pos b01F]
          exact h
    · unfold MO_search
      rw [if_pos b01F]
      exact h
  | true =>
    by_cases e1 : v < 1
    · left
      exact ⟨fun ct0 ln0 fd0 ov0 nn N sb sl sp su ss bc bs post h => by unfold PB_search; rw [if_pos e1]; exact h, fun th mm tk ln xb xc xf xy xs xp post h => by unfold MO_search; rw [if_neg b01T, if_pos e1]; exact h⟩
    have e0 : ¬ v < 0 := fun h => e1 (Int32.lt_trans h (by decide))
    obtain ⟨most, hm, em⟩ := nI_of e0
    subst em
    have hm1 : 1 ≤ most := by
      apply Classical.byContradiction
      intro g
      exact e1 (nI_lt (show most < 1 by omega) (by decide))
    by_cases e2 : most ≤ 10000
    · right
      obtain ⟨hB, hh⟩ := a11 rfl
      have hK := srch_k (gl := gl) (lv := lv) (W := W) (most := most) a9 hB.2.1 a5 hm1 (live_sub (W := W) (H := H) a8 a4)
      obtain ⟨ln, hres⟩ := res_ex hK
      have hle := res_le hK hres
      have hK2 := hK.1.2
      refine ⟨ansR (srchF fl gl lv bx most W p) ln, (srchF fl gl lv bx most W p).1.1, ln, pthR (srchF fl gl lv bx most W p) ln, by omega, fun ct0 ln0 fd0 ov0 nn N k sb sl sp su ss bc bs post hlen hbud h => ?_, fun th mm tk ln0 xb xc xf xy xs xp post h => ?_⟩
      · exact PB_search_spec a9 hB.2.1 a5 a6 (live_sub (W := W) (H := H) a8 a4) hm1 e2 hlen rfl hres hbud (fun nn' N' k' sb' sl' sp' su' ss' g1 g2 g3 => h nn' N' k' _ _ sb' sl' sp' su' ss' g1 g2 g3)
      · exact MO_search_spec a1 a2 a3 a4 a9 hB.2.1 a5 a8 hm1 e2 rfl hres h
    · left
      refine ⟨fun ct0 ln0 fd0 ov0 nn N sb sl sp su ss bc bs post h => ?_, fun th mm tk ln xb xc xf xy xs xp post h => ?_⟩
      · unfold PB_search
        rw [if_neg e1, if_pos (show (10000 : Int32) < nI most from nI_lt (show 10000 < most by omega) hm)]
        exact h
      · unfold MO_search
        rw [if_neg b01T, if_neg e1, if_neg (show ¬ nI most ≤ (10000 : Int32) from nI_ge (show 10000 < most by omega) hm)]
        exact h
