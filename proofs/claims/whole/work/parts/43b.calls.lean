/-! the larger calls, both sides -/
theorem in00 : vp_in (0 : Int32) 1 := vp_inN (k := 0) (by decide) (by decide)
theorem throws0 {th k : Int32} {post : Int32 → Int32 → Prop} (h : post 0 0) : MO_throwsIf th k 0 post := by
  unfold MO_throwsIf; rw [if_pos rfl]; exact ⟨Or.inl rfl, h⟩
theorem throws1 {th k : Int32} {post : Int32 → Int32 → Prop} (h : post 1 k) : MO_throwsIf th k 1 post := by
  unfold MO_throwsIf; rw [if_neg one_ne0]; exact ⟨Or.inr rfl, h⟩
theorem out_at {out : Nat → Int64} {k : Nat} {x : Int64} : vp_updL out k x k = x := pk_uLs
theorem way_both {W H p : Nat} {fl bx : Int64} {bd : Bool} {v1 v2 : Int32} (hW : W ≤ 8) (hH : H ≤ 8) (hfl : onB W H fl) (hp : p < 64) (hbd : bd = true → tb fl p = true) (hno : bd = false → W = 0 ∧ H = 0) : ∃ r a, (∀ (out : Nat → Int64) (post : Int32 → (Nat → Int64) → Prop), (∀ out', (r = 0 → out' (0 : Int32).toNatClampNeg = a.toInt64) → post r out') → LW_way (nI W) (nI H) fl bx (psL bd p) out v1 v2 post) ∧ (∀ th fa (post : Int32 → Int32 → (Nat → Int32) → Prop), (∀ fa', post a r fa') → MO_way (nI W) (nI H) (nI p) fl bx th fa v1 v2 post) := by
  rcases cellQ W H hW hH v1 v2 with ⟨x, y, hx, hy, e1, e2⟩ | ⟨q1, q2⟩
  · subst e1 e2
    have ht : bd = true := by
      cases bd with
      | true => rfl
      | false => have := hno rfl; omega
    subst ht
    refine ⟨0, stR (fl &&& (bx ^^^ (-1))) p (8 * y + x), fun out post h => ?_, fun th fa post h => ?_⟩
    · refine PB_way_spec hW hH hx hy ⟨in00, fun out' eo => h out' (fun _ => ?_)⟩
      rw [eo, out_at]
    · exact MO_way_spec hW hH hx hy hp (hfl p hp (hbd rfl)) hfl h
  · refine ⟨1, 0, fun out post h => ?_, fun th fa post h => ?_⟩
    · refine q1 _ _ ?_
      dsimp only
      rw [if_pos rfl]
      exact h out (fun e => absurd e one_ne0)
    · refine q2 _ ?_
      rw [if_pos rfl]
      refine throws1 ?_
      rw [if_neg one_ne0]
      exact h fa
theorem dead_both {W H : Nat} {fl gl lv : Int64} {v1 v2 : Int32} (hW : W ≤ 8) (hH : H ≤ 8) (hfl : onB W H fl) (hgl : sub gl fl) (hlv : isCl (El fl) gl lv) : ∃ r a, (∀ (out : Nat → Int64) (post : Int32 → (Nat → Int64) → Prop), (∀ out', (r = 0 → out' (0 : Int32).toNatClampNeg = if a = (0 : Int32) then 0 else 1) → post r out') → LW_dead (nI W) (nI H) fl lv out v1 v2 post) ∧ (∀ th (post : Int32 → Int32 → Prop), post a r → MO_dead (nI W) (nI H) fl gl th v1 v2 post) := by
  rcases cellQ W H hW hH v1 v2 with ⟨x, y, hx, hy, e1, e2⟩ | ⟨q1, q2⟩
  · subst e1 e2
    have hc : 8 * y + x < 64 := by omega
    refine ⟨0, b01 (tb (fl &&& (lv ^^^ (-1))) (8 * y + x)), fun out post h => ?_, fun th post h => ?_⟩
    · refine PB_existing_spec hW hH hx hy ?_
      have e : (bit (8 * y + x) &&& fl) &&& (lv ^^^ (-1)) = bit (8 * y + x) &&& (fl &&& (lv ^^^ (-1))) := Int64.and_assoc _ _ _
      rw [e]
      cases g : tb (fl &&& (lv ^^^ (-1))) (8 * y + x) with
      | false =>
        rw [g] at h
        rw [if_pos ((bit_and0 hc).mpr g)]
        dsimp only
        rw [if_pos rfl]
        refine ⟨in00, fun out' eo => h out' (fun _ => ?_)⟩
        rw [eo, out_at, if_pos b01F]
      | true =>
        rw [g] at h
        rw [if_neg (fun q => by rw [(bit_and0 hc).mp q] at g; cases g)]
        dsimp only
        rw [if_neg one_ne0]
        refine ⟨in00, fun out' eo => h out' (fun _ => ?_)⟩
        rw [eo, out_at, if_neg b01T]
    · refine MO_isCell_spec hW hH hx hy ?_
      rw [if_neg one_ne0]
      refine throws0 ?_
      rw [if_pos rfl]
      refine MO_live_spec hW hH hfl (hfl.sub hgl) (fun X hX => ?_)
      have : X = lv := hX.uniq hlv
      subst this
      rw [show (8 : Int32) = nI 8 from rfl, pk_mul, nI_add]
      refine MO_has_spec hc ⟨?_, h⟩
      cases tb (fl &&& (X ^^^ (-1))) (8 * y + x)
      · exact Or.inl rfl
      · exact Or.inr rfl
  · refine ⟨1, 0, fun out post h => ?_, fun th post h => ?_⟩
    · refine q1 _ _ ?_
      dsimp only
      rw [if_pos rfl]
      exact h out (fun e => absurd e one_ne0)
    · refine q2 _ ?_
      rw [if_pos rfl]
      refine throws1 ?_
      rw [if_neg one_ne0]
      exact h
theorem pushes_both {W H : Nat} {fl : Int64} {v1 v2 v3 v4 : Int32} (hW : W ≤ 8) (hH : H ≤ 8) (hfl : onB W H fl) : ∃ r a, (∀ (bs : Nat → Int32) (out : Nat → Int64) (post : Int32 → (Nat → Int32) → (Nat → Int64) → Prop), (∀ bs' out', (r = 0 → out' (0 : Int32).toNatClampNeg = a.toInt64) → post r bs' out') → LW_pushes (nI W) (nI H) fl bs out v1 v2 v3 v4 post) ∧ (∀ th fa (post : Int32 → Int32 → (Nat → Int32) → Prop), (∀ fa', post a r fa') → MO_pushes (nI W) (nI H) fl th fa v1 v2 v3 v4 post) := by
  rcases cellQ W H hW hH v1 v2 with ⟨x, y, hx, hy, e1, e2⟩ | ⟨q1, q2⟩
  · subst e1 e2
    rcases cellQ W H hW hH v3 v4 with ⟨x2, y2, hx2, hy2, e3, e4⟩ | ⟨q1, q2⟩
    · subst e3 e4
      refine ⟨0, stP fl (8 * y + x) (8 * y2 + x2), fun bs out post h => ?_, fun th fa post h => ?_⟩
      · refine PB_pushes_spec hW hH hx hy hx2 hy2 (fun g => ⟨in00, fun out' eo => h g out' (fun _ => ?_)⟩)
        rw [eo, out_at]
      · exact MO_pushes_spec hW hH hfl hx hy hx2 hy2 h
    · refine ⟨1, 0, fun bs out post h => ?_, fun th fa post h => ?_⟩
      · refine PB_existing_spec hW hH hx hy (q1 _ _ ?_)
        dsimp only
        rw [if_pos rfl]
        exact h bs out (fun e => absurd e one_ne0)
      · refine MO_isCell_spec hW hH hx hy ?_
        rw [if_neg one_ne0]
        refine q2 _ ?_
        rw [if_pos rfl]
        unfold MO_pushes_21 MO_pushes_26
        refine throws1 ?_
        rw [if_neg one_ne0]
        exact h fa
  · refine ⟨1, 0, fun bs out post h => ?_, fun th fa post h => ?_⟩
    · refine q1 _ _ ?_
      dsimp only
      rw [if_pos rfl]
      exact h bs out (fun e => absurd e one_ne0)
    · refine q2 _ ?_
      rw [if_pos rfl]
      unfold MO_pushes_21 MO_pushes_26
      refine throws1 ?_
      rw [if_neg one_ne0]
      exact h fa
theorem bound_both {W H : Nat} {fl gl bx : Int64} (hW : W ≤ 8) (hH : H ≤ 8) (hfl : onB W H fl) (hn : cnt bx ≤ 12) (hg : cnt gl ≤ cnt bx) : ∃ r, (∀ bs mc a1 a2 a3 a4 a5 a6 (post : Int32 → (Nat → Int32) → (Nat → Int32) → (Nat → Int32) → (Nat → Int32) → (Nat → Int32) → (Nat → Int32) → (Nat → Int32) → (Nat → Int32) → Prop), (∀ bs mc a1 a2 a3 a4 a5 a6, post r bs mc a1 a2 a3 a4 a5 a6) → PB_bound fl gl bx bs mc a1 a2 a3 a4 a5 a6 post) ∧ (∀ th fa le (post : Int32 → Int32 → (Nat → Int32) → (Nat → Int32) → Prop), (∀ fa le, post r 0 fa le) → MO_bound (nI W) (nI H) fl gl bx th fa le post) := by
  refine ⟨Classical.epsilon (isMin (Asg (Dm fl gl bx) (cnt gl) (cnt bx) (2 ^ cnt gl - 1))), fun bs mc a1 a2 a3 a4 a5 a6 post h => ?_, fun th fa le post h => ?_⟩
  · refine PB_bound_spec hn hg (fun r bs mc a1 a2 a3 a4 a5 a6 hr => ?_)
    rw [hr.uniq (Classical.epsilon_spec ⟨r, hr⟩)]
    exact h bs mc a1 a2 a3 a4 a5 a6
  · refine MO_bound_spec hW hH hfl hn (by omega) (fun r fa le hr => ?_)
    rw [hr.uniq (Classical.epsilon_spec ⟨r, hr⟩)]
    exact h fa le
/-- the board and its history -/
def bInv (W H : Nat) (fl gl lv bx : Int64) (bd : Bool) (p kp : Nat) (M : Nat → Nat) : Prop := W ≤ 8 ∧ H ≤ 8 ∧ onB W H fl ∧ sub gl fl ∧ sub bx fl ∧ cnt bx ≤ 12 ∧ cnt gl ≤ cnt bx ∧ isCl (El fl) gl lv ∧ p < 64 ∧ kp ≤ 500 ∧ (bd = true → bI fl bx p ∧ hv fl kp M bx p) ∧ (bd = false → W = 0 ∧ H = 0 ∧ kp = 0)
def lInv (kp : Nat) (M : Nat → Nat) (en : Nat) (ma dn : Nat → Int32) : Prop := clR kp M en ma ∧ rfR kp M dn
theorem bInv_move {W H : Nat} {fl gl lv bx bx' : Int64} {bd : Bool} {p kp p' kp' : Nat} {M M' : Nat → Nat} (h : bInv W H fl gl lv bx bd p kp M) (ht : bd = true) (h1 : bI fl bx' p') (h2 : cnt bx' = cnt bx) (h3 : hv fl kp' M' bx' p') (h4 : kp' ≤ 500) : bInv W H fl gl lv bx' bd p' kp' M' := by
  obtain ⟨a1, a2, a3, a4, a5, a6, a7, a8, a9, a10, a11, a12⟩ := h
  exact ⟨a1, a2, a3, a4, h1.2.2.2, by omega, by omega, a8, h1.1, h4, fun _ => ⟨h1, h3⟩, fun e => by rw [ht] at e; cases e⟩
theorem move_both {W H p kp en : Nat} {fl gl lv bx : Int64} {bd : Bool} {M : Nat → Nat} {ma dn : Nat → Int32} {mv pu v : Int32} (hb : bInv W H fl gl lv bx bd p kp M) (hl : lInv kp M en ma dn) :
    ∃ r a bx' p' kp' M' mv' pu', bInv W H fl gl lv bx' bd p' kp' M' ∧
      (∀ (out : Nat → Int64) (post : Int32 → Int64 → Int64 → Int32 → Int32 → Int32 → Int32 → (Nat → Int32) → (Nat → Int64) → Prop), (∀ en' ma' out', clR kp' M' en' ma' → (r = 0 → out' (0 : Int32).toNatClampNeg = a.toInt64) → post r bx' (psL bd p') (nI kp') mv' pu' (nI en') ma' out') → LW_move fl bx (psL bd p) (nI kp) mv pu (nI en) ma out v post) ∧
      (∀ th (post : Int32 → Int32 → Int32 → Int32 → Int32 → Int64 → Int32 → (Nat → Int32) → Prop), (∀ dn', rfR kp' M' dn' → post a r (nI p') mv' pu' bx' (nI kp') dn') → MO_move (b01 bd) (nI W) (nI H) fl th (nI p) mv pu bx (nI kp) dn v post) := by
  have hb0 := hb
  obtain ⟨a1, a2, a3, a4, a5, a6, a7, a8, a9, a10, a11, a12⟩ := hb
  obtain ⟨l1, l2⟩ := hl
  have two_ne : ¬ (2 : Int32) = 1 := by decide
  cases bd with
  | false =>
    refine ⟨2, 0, bx, p, kp, M, mv, pu, hb0, fun out post h => ?_, fun th post h => ?_⟩
    · unfold LW_move PB_move
      refine BO_isThere_spec a9 ?_
      rw [if_pos b01F]
      dsimp only
      rw [if_neg two_ne, if_pos rfl]
      exact h en ma out l1 (fun e => absurd e (by decide))
    · unfold MO_move MO_move_14
      rw [if_pos b01F]
      refine throws1 ?_
      rw [if_neg one_ne0]
      exact h dn l2
  | true =>
    have out : ∀ q : v < 0 ∨ (¬ v < 0 ∧ ¬ v < 4), ∃ r a bx' p' kp' M' mv' pu', bInv W H fl gl lv bx' true p' kp' M' ∧
      (∀ (out : Nat → Int64) (post : Int32 → Int64 → Int64 → Int32 → Int32 → Int32 → Int32 → (Nat → Int32) → (Nat → Int64) → Prop), (∀ en' ma' out', clR kp' M' en' ma' → (r = 0 → out' (0 : Int32).toNatClampNeg = a.toInt64) → post r bx' (psL true p') (nI kp') mv' pu' (nI en') ma' out') → LW_move fl bx (psL true p) (nI kp) mv pu (nI en) ma out v post) ∧
      (∀ th (post : Int32 → Int32 → Int32 → Int32 → Int32 → Int64 → Int32 → (Nat → Int32) → Prop), (∀ dn', rfR kp' M' dn' → post a r (nI p') mv' pu' bx' (nI kp') dn') → MO_move (b01 true) (nI W) (nI H) fl th (nI p) mv pu bx (nI kp) dn v post) := fun q => by
      refine ⟨1, 0, bx, p, kp, M, mv, pu, hb0, fun out post h => ?_, fun th post h => ?_⟩
      · unfold LW_move PB_move
        refine BO_isThere_spec a9 ?_
        rw [if_neg b01T]
        have hx := h en ma out l1 (fun e => absurd e one_ne0)
        rcases q with q | ⟨q, q'⟩
        · rw [if_pos q]; unfold PB_move_29; dsimp only; rw [if_pos rfl]; exact hx
        · rw [if_neg q, if_neg q']; unfold PB_move_29; dsimp only; rw [if_pos rfl]; exact hx
      · unfold MO_move MO_move_14
        rw [if_neg b01T]
        refine throws0 ?_
        rw [if_pos rfl]
        have hx : MO_move_36 (b01 true) (nI W) (nI H) fl post 0 (nI p) mv pu bx (nI kp) dn v 1 1 := by
          unfold MO_move_36
          refine throws1 ?_
          rw [if_neg one_ne0]
          exact h dn l2
        rcases q with q | ⟨q, q'⟩
        · rw [if_pos q]; exact hx
        · obtain ⟨k, hk, ek⟩ := nI_of q
          subst ek
          have q2 : ¬ k < 4 := fun g => q' (nI_lt g (by decide))
          rw [if_neg q, if_neg (show ¬ nI k ≤ (3 : Int32) from nI_ge (show 3 < k by omega) hk)]
          exact hx
    by_cases e0 : v < 0
    · exact out (Or.inl e0)
    by_cases e1 : v < 4
    · obtain ⟨w, hw, ew⟩ := nI_of e0
      subst ew
      have hw4 : w < 4 := by
        apply Classical.byContradiction
        intro g
        exact nI_nlt (show 4 ≤ w by omega) hw e1
      obtain ⟨hB, hh⟩ := a11 rfl
      have clsP : ∀ (out : Nat → Int64) (post : Int32 → Int64 → Int64 → Int32 → Int32 → Int32 → Int32 → (Nat → Int32) → (Nat → Int64) → Prop),
          PB_goOnce fl bx (psL true p) (nI kp) mv pu (nI en) ma (nI w) (fun r_1 b2 p3 k4 m5 u6 e7 ma8 => vp_in (0 : Int32) 1 ∧ ∀ aOUT_17 : Nat → Int64, aOUT_17 = (vp_updL out (0 : Int32).toNatClampNeg r_1.toInt64) → post (0 : Int32) b2 p3 k4 m5 u6 e7 ma8 aOUT_17) →
          LW_move fl bx (psL true p) (nI kp) mv pu (nI en) ma out (nI w) post := fun out post h => by
        unfold LW_move PB_move
        refine BO_isThere_spec a9 ?_
        rw [if_neg b01T, if_neg e0, if_pos e1]
        exact h
      have refP : ∀ th (post : Int32 → Int32 → Int32 → Int32 → Int32 → Int64 → Int32 → (Nat → Int32) → Prop),
          MO_go (nI W) (nI H) fl (nI p) mv pu bx (nI kp) dn (nI w) (fun r_3 p4 m5 u6 b7 k8 d9 => post r_3 0 p4 m5 u6 b7 k8 d9) →
          MO_move (b01 true) (nI W) (nI H) fl th (nI p) mv pu bx (nI kp) dn (nI w) post := fun th post h => by
        unfold MO_move MO_move_14
        rw [if_neg b01T]
        refine throws0 ?_
        rw [if_pos rfl, if_neg e0, if_pos (show nI w ≤ (3 : Int32) from nI_le (show w ≤ 3 by omega) (by decide))]
        unfold MO_move_36
        refine throws0 ?_
        rw [if_pos rfl]
        exact h
      cases eg : goA true fl w (p, bx, kp, M, mv, pu) with
      | none =>
        refine ⟨0, 0, bx, p, kp, M, mv, pu, hb0, fun out post h => clsP out post ?_, fun th post h => refP th post ?_⟩
        · refine PB_goOnce_spec a9 hw4 l1 (fun _ => ⟨in00, fun o eo => h en ma o l1 (fun _ => by rw [eo, out_at])⟩) (fun b q bx' kp' M' mv' pu' e => ?_)
          rw [eg] at e; cases e
        · refine MO_go_spec a1 a2 a3 a9 hw4 a10 l2 (fun _ => h dn l2) (fun b q bx' kp' M' mv' pu' e => ?_)
          rw [eg] at e; cases e
      | some R =>
        obtain ⟨b, q, bx', kp', M', mv', pu'⟩ := R
        obtain ⟨k1, k2, k3, k4⟩ := goA_keep hw4 a10 hB hh eg
        refine ⟨0, if b = true then 2 else 1, bx', q, kp', M', mv', pu', bInv_move hb0 rfl k1 k2 k3 k4, fun out post h => clsP out post ?_, fun th post h => refP th post ?_⟩
        · refine PB_goOnce_spec a9 hw4 l1 (fun e => ?_) (fun b2 q2 bx2 kp2 M2 mv2 pu2 e en' ma' hc => ?_)
          · rw [eg] at e; cases e
          · rw [eg] at e
            cases e
            exact ⟨in00, fun o eo => h en' ma' o hc (fun _ => by rw [eo, out_at])⟩
        · refine MO_go_spec a1 a2 a3 a9 hw4 a10 l2 (fun e => ?_) (fun b2 q2 bx2 kp2 M2 mv2 pu2 e dn' hc => ?_)
          · rw [eg] at e; cases e
          · rw [eg] at e
            cases e
            exact h dn' hc
    · exact out (Or.inr ⟨e0, e1⟩)
theorem row_both {W H p kp en L : Nat} {fl gl lv bx : Int64} {bd : Bool} {M : Nat → Nat} {tx ma dn : Nat → Int32} {mv pu : Int32} (hL : L ≤ 160) (hb : bInv W H fl gl lv bx bd p kp M) (hl : lInv kp M en ma dn) :
    ∃ r bx' p' kp' M' mv' pu', bInv W H fl gl lv bx' bd p' kp' M' ∧
      (∀ (post : Int32 → Int32 → Int64 → Int64 → Int32 → Int32 → Int32 → Int32 → (Nat → Int32) → Prop), (∀ en' ma', clR kp' M' en' ma' → post r 0 bx' (psL bd p') (nI kp') mv' pu' (nI en') ma') → PB_row tx fl (nI L) bx (psL bd p) (nI kp) mv pu (nI en) ma post) ∧
      (∀ th (post : Int32 → Int32 → Int32 → Int32 → Int32 → Int32 → Int64 → Int32 → (Nat → Int32) → Prop), (∀ dn', rfR kp' M' dn' → post r 0 0 (nI p') mv' pu' bx' (nI kp') dn') → MO_row (b01 bd) (nI W) (nI H) fl tx th (nI L) (nI p) mv pu bx (nI kp) dn post) := by
  have hb0 := hb
  obtain ⟨a1, a2, a3, a4, a5, a6, a7, a8, a9, a10, a11, a12⟩ := hb
  obtain ⟨l1, l2⟩ := hl
  generalize er : rowF bd fl tx L 0 0 0 (p, bx, kp, M, mv, pu) = R
  obtain ⟨r, p', bx', kp', M', mv', pu'⟩ := R
  obtain ⟨k1, k2, k3⟩ := rowF_keep L 0 0 0 p bx kp M mv pu r p' bx' kp' M' mv' pu' a10 a11 er
  refine ⟨r, bx', p', kp', M', mv', pu', ?_, fun post h => PB_row_spec hL a9 l1 er h, fun th post h => MO_row_spec a1 a2 a3 hL a9 a10 l2 er h⟩
  cases e : bd with
  | true =>
    obtain ⟨q1, q2, q3⟩ := k2 e
    rw [e] at hb0
    exact bInv_move hb0 rfl q1 q2 q3 k1
  | false =>
    obtain ⟨q1, q2, q3, q4, -, -⟩ := k3 e
    rw [q1, q2, q3, q4, ← e]
    exact hb0
theorem undo_both {W H p kp en : Nat} {fl gl lv bx : Int64} {bd : Bool} {M : Nat → Nat} {ma dn : Nat → Int32} {mv pu : Int32} (hb : bInv W H fl gl lv bx bd p kp M) (hl : lInv kp M en ma dn) :
    ∃ r bx' p' kp' mv' pu', bInv W H fl gl lv bx' bd p' kp' M ∧
      (∀ (post : Int32 → Int64 → Int64 → Int32 → Int32 → Int32 → Int32 → Prop), (∀ en', lInv kp' M en' ma dn → post r bx' (psL bd p') (nI kp') mv' pu' (nI en')) → PB_undo ma bx (psL bd p) (nI kp) mv pu (nI en) post) ∧
      (∀ th (post : Int32 → Int32 → Int32 → Int32 → Int32 → Int64 → Int32 → Prop), post r 0 (nI p') mv' pu' bx' (nI kp') → MO_undo (nI W) (nI H) dn th (nI p) mv pu bx (nI kp) post) := by
  have hb0 := hb
  have hl0 := hl
  obtain ⟨a1, a2, a3, a4, a5, a6, a7, a8, a9, a10, a11, a12⟩ := hb
  obtain ⟨l1, l2⟩ := hl
  cases kp with
  | zero =>
    refine ⟨0, bx, p, 0, mv, pu, hb0, fun post h => ?_, fun th post h => ?_⟩
    · unfold PB_undo
      rw [if_pos (show nI 0 = (0 : Int32) from rfl)]
      exact h en hl0
    · unfold MO_undo
      rw [if_pos (show nI 0 = (0 : Int32) from rfl)]
      exact h
  | succ k =>
    have ht : bd = true := by
      cases bd with
      | true => rfl
      | false => have := (a12 rfl).2.2; omega
    subst ht
    obtain ⟨hB, hh⟩ := a11 rfl
    obtain ⟨q, bx', s1, s2, s3, s4, s5, s6, s7⟩ := hv_step hB hh
    refine ⟨if M k < 4 then 1 else 2, bx', q, k, mv - 1, pu - b01 (decide (4 ≤ M k)), bInv_move hb0 rfl s4 s5 s6 (by omega), fun post h => ?_, fun th post h => ?_⟩
    · exact PB_undo_spec (fl := fl) a9 l1 s1 s2 s7 (fun en' hc => h en' ⟨hc, fun i hi => l2 i (by omega)⟩)
    · exact MO_undo_spec (fl := fl) a1 a2 a3 a9 (by omega) l2 s1 s2 s4.2.1 s7 h
