/-! the search as one course -/
abbrev SSt := Nat × (Nat → Int64) × (Nat → Nat) × (Nat → Nat) × (Nat → Int32)
def pshF (lv B X : Int64) (c w : Nat) : Option Nat := match nb w c with
  | none => none
  | some t => if tb lv t = true ∧ tb B t = false ∧ (nb (opp w) c).any (fun j => tb X j) = true then some t else none
def puI (W c w : Nat) : Int32 := (4 : Int32) * (nI W * nI (c / 8) + nI (c % 8)) + nI w
noncomputable def wayL (fl gl lv : Int64) (most W : Nat) (B X : Int64) (par c : Nat) : Nat → Nat → SSt → SSt × Nat
  | 0, _, S => (S, 0)
  | n + 1, w, S => match pshF lv B X c w with
    | none => wayL fl gl lv most W B X par c n (w + 1) S
    | some t => if (comeF fl gl lv most S ((B &&& (bit c ^^^ (-1))) ||| bit t) c par (puI W c w)).2 = 0 then wayL fl gl lv most W B X par c n (w + 1) (comeF fl gl lv most S ((B &&& (bit c ^^^ (-1))) ||| bit t) c par (puI W c w)).1 else comeF fl gl lv most S ((B &&& (bit c ^^^ (-1))) ||| bit t) c par (puI W c w)
noncomputable def cellL (fl gl lv : Int64) (most W : Nat) (B X : Int64) (par : Nat) : Nat → Nat → SSt → SSt × Nat
  | 0, _, S => (S, 0)
  | n + 1, c, S => if tb B c = true then (if (wayL fl gl lv most W B X par c 4 0 S).2 = 0 then cellL fl gl lv most W B X par n (c + 1) (wayL fl gl lv most W B X par c 4 0 S).1 else wayL fl gl lv most W B X par c 4 0 S) else cellL fl gl lv most W B X par n (c + 1) S
noncomputable def fromL (fl gl lv : Int64) (most W i : Nat) (S : SSt) : SSt × Nat := cellL fl gl lv most W (S.2.1 i) (rchF fl (S.2.1 i) (bit (S.2.2.1 i))) i 64 0 S
noncomputable def bfsL (fl gl lv : Int64) (most W : Nat) : Nat → Nat → SSt → SSt × Nat
  | 0, _, S => (S, 0)
  | n + 1, i, S => if S.1 ≤ i then (S, 0) else if (fromL fl gl lv most W i S).2 = 0 then bfsL fl gl lv most W n (i + 1) (fromL fl gl lv most W i S).1 else fromL fl gl lv most W i S
theorem pshF_some {lv B X : Int64} {c w t : Nat} (h : pshF lv B X c w = some t) : nb w c = some t ∧ tb lv t = true ∧ tb B t = false ∧ (nb (opp w) c).any (fun j => tb X j) = true := by
  unfold pshF at h
  split at h
  · cases h
  · rename_i t' e
    split at h
    · rename_i q; cases h; exact ⟨e, q⟩
    · cases h
/-- a course's state, and what a step may do to it -/
def sK (fl : Int64) (nb most : Nat) (S : SSt) : Prop := sOK fl nb S.1 S.2.1 S.2.2.1 S.2.2.2.1 ∧ S.1 ≤ most
def sX (most : Nat) (S : SSt) (R : SSt × Nat) : Prop := S.1 ≤ R.1.1 ∧ R.2 ≤ 2 ∧ (∀ i, i < S.1 → R.1.2.1 i = S.2.1 i ∧ R.1.2.2.1 i = S.2.2.1 i) ∧ (R.2 = 1 → 0 < R.1.1) ∧ (R.2 = 2 → R.1.1 = most)
theorem sX.rf {most : Nat} (S : SSt) : sX most S (S, 0) := ⟨Nat.le_refl _, Nat.zero_le _, fun _ _ => ⟨rfl, rfl⟩, fun h => Nat.noConfusion h, fun h => Nat.noConfusion h⟩
theorem sX.tr {most : Nat} {S : SSt} {R Q : SSt × Nat} (h : sX most S R) (g : sX most R.1 Q) : sX most S Q := by
  obtain ⟨h1, h2, h3, h4, h5⟩ := h
  obtain ⟨g1, g2, g3, g4, g5⟩ := g
  exact ⟨Nat.le_trans h1 g1, g2, fun i hi => ⟨(g3 i (by omega)).1.trans (h3 i hi).1, (g3 i (by omega)).2.trans (h3 i hi).2⟩, g4, g5⟩
theorem comeF_k {fl gl lv B : Int64} {most nb c par : Nat} {S : SSt} {pu : Int32} (hs : sK fl nb most S) (hc : c < 64) (hfc : tb fl c = true) (hB : sub B fl) (hBn : cnt B = nb) (hp : par < S.1) : sK fl nb most (comeF fl gl lv most S B c par pu).1 ∧ sX most S (comeF fl gl lv most S B c par pu) := by
  obtain ⟨k1, k2, k3, k4, k5, k6, k7⟩ := comeF_keep (gl := gl) (lv := lv) (pu := pu) (SU := S.2.2.2.2) (SB' := (comeF fl gl lv most S B c par pu).1.2.1) (SL' := (comeF fl gl lv most S B c par pu).1.2.2.1) (SP' := (comeF fl gl lv most S B c par pu).1.2.2.2.1) (SU' := (comeF fl gl lv most S B c par pu).1.2.2.2.2) (m' := (comeF fl gl lv most S B c par pu).1.1) (st := (comeF fl gl lv most S B c par pu).2) hs.1 hs.2 hc hfc hB hBn hp rfl
  exact ⟨⟨k1, k3⟩, k2, k4, k5, k6, k7⟩
theorem comeF_1 {fl gl lv B : Int64} {most c par : Nat} {S : SSt} {pu : Int32} : (comeF fl gl lv most S B c par pu).1.1 = S.1 ∨ (comeF fl gl lv most S B c par pu).1.1 = S.1 + 1 := by
  unfold comeF
  split
  · split
    · exact Or.inl rfl
    · split
      · exact Or.inl rfl
      · exact Or.inr rfl
  · exact Or.inl rfl
/-- the boxes after a push -/
theorem psh_box {fl lv B X : Int64} {nb' c w t : Nat} (hc : c < 64) (hw : w < 4) (hlv : sub lv fl) (hB : sub B fl) (hBn : cnt B = nb') (hbc : tb B c = true) (h : pshF lv B X c w = some t) : t < 64 ∧ sub ((B &&& (bit c ^^^ (-1))) ||| bit t) fl ∧ cnt ((B &&& (bit c ^^^ (-1))) ||| bit t) = nb' := by
  obtain ⟨h1, h2, h3, h4⟩ := pshF_some h
  have ht := nb_lt w hw c hc t h1
  refine ⟨ht, fun i hi e => ?_, by rw [cnt_mv hc ht hbc h3, hBn]⟩
  rw [tb_mv hc ht, Bool.or_eq_true, Bool.and_eq_true] at e
  rcases e with e | e
  · exact hB i hi e.1
  · rw [of_decide_eq_true e]; exact hlv t ht h2
theorem wayL_k {fl gl lv B X : Int64} {most W nb' par c : Nat} (hc : c < 64) (hlv : sub lv fl) (hB : sub B fl) (hBn : cnt B = nb') (hbc : tb B c = true) :
    ∀ n w S, w + n = 4 → sK fl nb' most S → par < S.1 → sK fl nb' most (wayL fl gl lv most W B X par c n w S).1 ∧ sX most S (wayL fl gl lv most W B X par c n w S) := by
  intro n
  induction n with
  | zero => intro w S _ hs _; exact ⟨hs, sX.rf S⟩
  | succ n ih =>
    intro w S hw hs hp
    unfold wayL
    split
    · exact ih (w + 1) S (by omega) hs hp
    · rename_i t e
      obtain ⟨q1, q2, q3⟩ := psh_box hc (by omega) hlv hB hBn hbc e
      obtain ⟨k1, k2⟩ := comeF_k (gl := gl) (lv := lv) (pu := puI W c w) hs hc (hB c hc hbc) q2 q3 hp
      split
      · obtain ⟨j1, j2⟩ := ih (w + 1) _ (by omega) k1 (Nat.lt_of_lt_of_le hp k2.1)
        exact ⟨j1, k2.tr j2⟩
      · exact ⟨k1, k2⟩
theorem cellL_k {fl gl lv B X : Int64} {most W nb' par : Nat} (hlv : sub lv fl) (hB : sub B fl) (hBn : cnt B = nb') :
    ∀ n c S, c + n = 64 → sK fl nb' most S → par < S.1 → sK fl nb' most (cellL fl gl lv most W B X par n c S).1 ∧ sX most S (cellL fl gl lv most W B X par n c S) := by
  intro n
  induction n with
  | zero => intro c S _ hs _; exact ⟨hs, sX.rf S⟩
  | succ n ih =>
    intro c S hc hs hp
    unfold cellL
    split
    · rename_i e
      obtain ⟨k1, k2⟩ := wayL_k (gl := gl) (W := W) (X := X) (by omega : c < 64) hlv hB hBn e 4 0 S rfl hs hp
      split
      · obtain ⟨j1, j2⟩ := ih (c + 1) _ (by omega) k1 (Nat.lt_of_lt_of_le hp k2.1)
        exact ⟨j1, k2.tr j2⟩
      · exact ⟨k1, k2⟩
    · exact ih (c + 1) S (by omega) hs hp
theorem fromL_k {fl gl lv : Int64} {most W nb' i : Nat} {S : SSt} (hlv : sub lv fl) (hs : sK fl nb' most S) (hi : i < S.1) : sK fl nb' most (fromL fl gl lv most W i S).1 ∧ sX most S (fromL fl gl lv most W i S) := by
  obtain ⟨-, -, -, a, b, -⟩ := hs.1.1 i hi
  exact cellL_k hlv a b 64 0 S rfl hs hi
theorem bfsL_k {fl gl lv : Int64} {most W nb' : Nat} (hlv : sub lv fl) :
    ∀ n i S, sK fl nb' most S → sK fl nb' most (bfsL fl gl lv most W n i S).1 ∧ sX most S (bfsL fl gl lv most W n i S) := by
  intro n
  induction n with
  | zero => intro i S hs; exact ⟨hs, sX.rf S⟩
  | succ n ih =>
    intro i S hs
    unfold bfsL
    split
    · exact ⟨hs, sX.rf S⟩
    · obtain ⟨k1, k2⟩ := fromL_k (gl := gl) (W := W) hlv hs (by omega : i < S.1)
      split
      · obtain ⟨j1, j2⟩ := ih (i + 1) _ k1
        exact ⟨j1, k2.tr j2⟩
      · exact ⟨k1, k2⟩
/-! the program's course -/
def cRelS (S : SSt) (nn N k : Nat) (sb : Nat → Int64) (sl sp su ss : Nat → Int32) : Prop := cRel S.1 S.2.1 S.2.2.1 S.2.2.2.1 S.2.2.2.2 nn N k sb sl sp su ss
def nnF (nn m : Nat) : Nat := if nn = 128 ∧ m ≤ 128 then 128 else 10000
def bud (nn M bc bs : Nat) : Prop := nn = 10000 ∨ M ≤ 128 ∨ (5 ≤ bc ∧ 56384 ≤ bs)
theorem bud_split {nn M m bc bs : Nat} (hl : nn = 128 ∨ nn = 10000) (h : bud nn M bc bs) (hm : m ≤ M) : ∃ b s, b ≤ bc ∧ s ≤ bs ∧ bud nn m b s ∧ ∀ M', bud nn M' bc bs → bud (nnF nn m) M' (bc - b) (bs - s) := by
  unfold bud nnF at *
  by_cases q : nn = 128 ∧ ¬ m ≤ 128
  · refine ⟨5, 56384, by omega, by omega, Or.inr (Or.inr ⟨Nat.le_refl _, Nat.le_refl _⟩), fun M' _ => ?_⟩
    rw [if_neg (by omega)]; exact Or.inl rfl
  · refine ⟨0, 0, Nat.zero_le _, Nat.zero_le _, by omega, fun M' h' => ?_⟩
    by_cases e : nn = 128
    · rw [if_pos (by omega)]; omega
    · rw [if_neg (by omega)]; exact Or.inl rfl
theorem nnF_tr {nn a b : Nat} (h : a ≤ b) : nnF (nnF nn a) b = nnF nn b := by
  unfold nnF
  by_cases e : nn = 128 ∧ a ≤ 128
  · rw [if_pos e]; by_cases f : b ≤ 128
    · rw [if_pos ⟨rfl, f⟩, if_pos ⟨e.1, f⟩]
    · rw [if_neg (by omega), if_neg (by omega)]
  · rw [if_neg e, if_neg (by omega), if_neg (by omega)]
theorem lenOK.two {nn N k : Nat} (h : lenOK nn N k) : nn = 128 ∨ nn = 10000 := by
  rcases h with ⟨a, -, -⟩ | ⟨a, -, -⟩
  · exact Or.inl a
  · exact Or.inr a
theorem nnF_rf {nn N k m : Nat} (h : lenOK nn N k) (hm : m ≤ nn) : nnF nn m = nn := by
  unfold nnF
  rcases h.two with e | e
  · rw [if_pos (by omega), e]
  · rw [if_neg (by omega), e]
theorem come_cls {fl gl lv B : Int64} {bc bs most nb c par nn N k : Nat} {S : SSt} {pu : Int32} {sb : Nat → Int64} {sl sp su ss : Nat → Int32} {post : Int32 → Int32 → Int32 → Nat → (Nat → Int64) → Nat → (Nat → Int32) → Nat → (Nat → Int32) → Nat → (Nat → Int32) → Nat → (Nat → Int32) → Prop} {R : SSt × Nat}
    (hR : cRelS S nn N k sb sl sp su ss) (hs : sK fl nb most S) (hnb : nb ≤ 12) (hmost : most ≤ 10000) (hc : c < 64) (hfc : tb fl c = true) (hB : sub B fl) (hBn : cnt B = nb) (hp : par < S.1)
    (hF : comeF fl gl lv most S B c par pu = R) (hb : bud nn R.1.1 bc bs)
    (h : ∀ nn' N' k' sb' sl' sp' su' ss', cRelS R.1 nn' N' k' sb' sl' sp' su' ss' → nn' = nnF nn R.1.1 → post (nI R.1.1) (fdI R.2 R.1.1) (ovI R.2) nn' sb' nn' sl' nn' sp' nn' su' N' ss') :
    SE_comeTo fl gl (sh lv 0 ||| sh lv 2) (sh lv 1 ||| sh lv 3) (nI S.1) (-1) 0 nn sb nn sl nn sp nn su N ss B (bit c) (nI par) pu (nI most) bc bs post := by
  have h1 : R.1.1 = S.1 ∨ R.1.1 = S.1 + 1 := by rw [← hF]; exact comeF_1
  have hl := hR.1.two
  have hm := hR.2.1
  refine SE_comeTo_spec (SB := S.2.1) (SL := S.2.2.1) (SP := S.2.2.2.1) (SU := S.2.2.2.2) (SB' := R.1.2.1) (SL' := R.1.2.2.1) (SP' := R.1.2.2.2.1) (SU' := R.1.2.2.2.2) (m' := R.1.1) (st := R.2) hR hs.1 hnb hs.2 hmost hc hfc hB hBn hp hF (fun a b d => ?_) (fun nn' N' k' sb' sl' sp' su' ss' g1 g2 => h nn' N' k' sb' sl' sp' su' ss' g1 ?_)
  · unfold bud at hb; omega
  · rw [g2]
    unfold nnF grow
    by_cases e : R.1.1 = S.1
    · rw [if_pos e]
      by_cases f : nn = 128
      · rw [if_pos (by omega), f]
      · rw [if_neg (by omega)]; omega
    · rw [if_neg e]
      by_cases f : nn = 128 ∧ S.1 = 128
      · rw [if_pos f, if_neg (by omega)]
      · rw [if_neg f]
        by_cases g : nn = 128
        · rw [if_pos (by omega), g]
        · rw [if_neg (by omega)]; omega
theorem cell_nI {c : Nat} (hc : c < 64) : nI c / 8 = nI (c / 8) ∧ nI c - nI c / 8 * 8 = nI (c % 8) := by
  have : ∀ c, c < 64 → nI c / 8 = nI (c / 8) ∧ nI c - nI c / 8 * 8 = nI (c % 8) := by decide +kernel
  exact this c hc
theorem BO_cellOf_spec {W c : Nat} (hc : c < 64) {post : Int32 → Prop} (h : post (nI W * nI (c / 8) + nI (c % 8))) : BO_cellOf (nI W) (bit c) post := by
  refine PB_spotOf_spec (low_bit hc) ?_
  rw [(cell_nI hc).1] at *
  have := (cell_nI hc).2
  rw [(cell_nI hc).1] at this
  rw [this]; exact h
theorem MO_number_spec {W c : Nat} (hc : c < 64) {post : Int32 → Prop} (h : post (nI W * nI (c / 8) + nI (c % 8))) : MO_number (nI W) (nI c) post := by
  unfold MO_number
  have := (cell_nI hc).2
  rw [(cell_nI hc).1] at this
  rw [(cell_nI hc).1, this, Int32.mul_comm]; exact h
theorem xor_move2 {x : Int64} {q r : Nat} (hq : q < 64) (hr : r < 64) (hqr : ¬ q = r) (h1 : tb x q = true) (h2 : tb x r = false) : (x ^^^ bit q) ^^^ bit r = (x &&& (bit q ^^^ (-1))) ||| bit r := tb_ext fun i hi => by
  rw [tb_xor, tb_xor, tb_bit hq, tb_bit hr, tb_mv hq hr]
  by_cases e1 : i = q
  · subst e1; rw [h1]; simp [hqr]
  · by_cases e2 : i = r
    · subst e2; rw [h2]; simp [e1]
    · simp [e1, e2]
theorem fd_neg {st m : Nat} (h : ¬ st = 1) : fdI st m = -1 := if_neg h
theorem ov_0 {st : Nat} (h : ¬ st = 2) : ovI st = 0 := if_neg h
theorem le_neg1 : ¬ (0 : Int32) ≤ -1 := by decide
theorem one_ne0 : ¬ (1 : Int32) = 0 := by decide
