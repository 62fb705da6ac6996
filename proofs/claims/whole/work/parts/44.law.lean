/-! the law's loop -/
theorem iteP {c : Prop} [Decidable c] {a b : Prop} (h1 : c → a) (h0 : ¬ c → b) : if c then a else b := by
  by_cases e : c
  · rw [if_pos e]; exact h1 e
  · rw [if_neg e]; exact h0 e
theorem iteT {c : Prop} [Decidable c] {a b : Prop} (h : c) (ha : a) : if c then a else b := by rw [if_pos h]; exact ha
def budI (nn L i bc bs : Nat) : Prop := L ≤ bc + i ∧ 6 * L ≤ bs + 6 * i ∧ (nn = 10000 ∨ (L + 5 ≤ bc + i ∧ 6 * L + 56384 ≤ bs + 6 * i))
theorem budI_0 {nn L i bc bs : Nat} (h : budI nn L i bc bs) : budI nn L (i + 5) bc bs := by unfold budI at *; omega
theorem budI_1 {nn L i bc bs : Nat} (hi : i + 5 ≤ L) (h : budI nn L i bc bs) : 1 ≤ bc ∧ 6 ≤ bs ∧ budI nn L (i + 5) (bc - 1) (bs - 6) := by unfold budI at *; omega
theorem budI_2 {nn L i bc bs : Nat} (hi : i + 5 ≤ L) (h : budI nn L i bc bs) : 2 ≤ bc ∧ 12 ≤ bs ∧ budI nn L (i + 5) (bc - 2) (bs - 12) := by unfold budI at *; omega
theorem budI_s {nn N k L i bc bs ct : Nat} (hl : lenOK nn N k) (hi : i + 5 ≤ L) (h : budI nn L i bc bs) : ∃ b s, b ≤ bc ∧ s ≤ bs ∧ bud nn ct b s ∧ budI (nnF nn ct) L (i + 5) (bc - b) (bs - s) := by
  unfold budI bud nnF at *
  rcases hl.two with e | e
  · by_cases q : ct ≤ 128
    · refine ⟨0, 0, Nat.zero_le _, Nat.zero_le _, Or.inr (Or.inl q), ?_⟩
      rw [if_pos ⟨e, q⟩]; omega
    · refine ⟨5, 56384, by omega, by omega, Or.inr (Or.inr ⟨Nat.le_refl _, Nat.le_refl _⟩), ?_⟩
      rw [if_neg (by omega)]; omega
  · refine ⟨0, 0, Nat.zero_le _, Nat.zero_le _, Or.inl e, ?_⟩
    rw [if_neg (by omega)]; omega
def jInv (L i bc bs tl W H : Nat) (fl gl lv bx : Int64) (bd : Bool) (p kp : Nat) (M : Nat → Nat) (en : Nat) (ma dn : Nat → Int32) (ct ln : Nat) (pth : Nat → Int32) (nn N k : Nat) (fd : Int32) (sp su xp : Nat → Int32) : Prop := tl ≤ 160 ∧ bInv W H fl gl lv bx bd p kp M ∧ lInv kp M en ma dn ∧ ln ≤ 10000 ∧ lenOK nn N k ∧ pathOK ln pth nn fd sp su ∧ (∀ j, j < ln → xp j = pth j) ∧ budI nn L i bc bs
theorem end_lt {L i : Nat} (hL : L ≤ 2560) (hi : i ≤ L) : (nI L - (5 : Int32) < nI i) ∨ (i + 5 ≤ L ∧ ¬ nI L - (5 : Int32) < nI i) := by
  by_cases q : i + 5 ≤ L
  · right
    refine ⟨q, ?_⟩
    rw [show (5 : Int32) = nI 5 from rfl, pk_sub (by omega)]
    exact nI_nlt (by omega) (by omega)
  · left
    by_cases q5 : 5 ≤ L
    · rw [show (5 : Int32) = nI 5 from rfl, pk_sub (by omega)]
      exact nI_lt (by omega) (by omega)
    · have : ∀ L, L < 5 → ∀ i, i < 5 → nI L - 5 < nI i := by decide +kernel
      exact this L (by omega) i (by omega)
theorem h8_of {W H p kp : Nat} {fl gl lv bx : Int64} {bd : Bool} {M : Nat → Nat} (h : bInv W H fl gl lv bx bd p kp M) : ∀ i, i < kp → M i < 8 := by
  obtain ⟨a1, a2, a3, a4, a5, a6, a7, a8, a9, a10, a11, a12⟩ := h
  cases bd with
  | true => exact hv_8 kp M bx p (a11 rfl).2
  | false => intro i hi; have := (a12 rfl).2.2; omega
def lawPost : Int32 → Int32 → (Nat → Int32) → Int32 → Int32 → Int64 → Int64 → Int64 → Int64 → Int32 → Int32 → Int32 → Int32 → Int64 → Int64 → Int64 → Int64 → Int64 → Int64 → Int64 → (Nat → Int32) → Int32 → Int32 → Int32 → Int32 → (Nat → Int32) → (Nat → Int32) → (Nat → Int32) → (Nat → Int32) → (Nat → Int32) → (Nat → Int32) → (Nat → Int32) → (Nat → Int32) → Int32 → Int32 → Int32 → Int32 → Nat → (Nat → Int64) → Nat → (Nat → Int32) → Nat → (Nat → Int32) → Nat → (Nat → Int32) → Nat → (Nat → Int32) → Int32 → Int32 → Int32 → Int32 → Int32 → Int32 → Int32 → Int32 → Int64 → Int64 → Int64 → Int64 → Int64 → Int64 → Int32 → Int32 → Int32 → Int32 → Int32 → Int32 → (Nat → Int32) → (Nat → Int32) → (Nat → Int64) → (Nat → Int32) → (Nat → Int32) → (Nat → Int32) → (Nat → Int32) → (Nat → Int32) → (Nat → Int32) → (Nat → Int32) → (Nat → Int64) → Prop := (fun (r : Int32) (_ : Int32) (_ : Nat → Int32) (_ : Int32) (_ : Int32) (_ : Int64) (_ : Int64) (_ : Int64) (_ : Int64) (_ : Int32) (_ : Int32) (_ : Int32) (_ : Int32) (_ : Int64) (_ : Int64) (_ : Int64) (_ : Int64) (_ : Int64) (_ : Int64) (_ : Int64) (_ : Nat → Int32) (_ : Int32) (_ : Int32) (_ : Int32) (_ : Int32) (_ : Nat → Int32) (_ : Nat → Int32) (_ : Nat → Int32) (_ : Nat → Int32) (_ : Nat → Int32) (_ : Nat → Int32) (_ : Nat → Int32) (_ : Nat → Int32) (_ : Int32) (_ : Int32) (_ : Int32) (_ : Int32) (_ : Nat) (_ : Nat → Int64) (_ : Nat) (_ : Nat → Int32) (_ : Nat) (_ : Nat → Int32) (_ : Nat) (_ : Nat → Int32) (_ : Nat) (_ : Nat → Int32) (_ : Int32) (_ : Int32) (_ : Int32) (_ : Int32) (_ : Int32) (_ : Int32) (_ : Int32) (_ : Int32) (_ : Int64) (_ : Int64) (_ : Int64) (_ : Int64) (_ : Int64) (_ : Int64) (_ : Int32) (_ : Int32) (_ : Int32) (_ : Int32) (_ : Int32) (_ : Int32) (_ : Nat → Int32) (_ : Nat → Int32) (_ : Nat → Int64) (_ : Nat → Int32) (_ : Nat → Int32) (_ : Nat → Int32) (_ : Nat → Int32) (_ : Nat → Int32) (_ : Nat → Int32) (_ : Nat → Int32) (_ : Nat → Int64) => r = 1)
theorem law_loop (L : Nat) (hL : L ≤ 2560) (xs : Nat → Int32) : ∀ (n i : Nat) (bc bs tl : Nat) (tx : Nat → Int32) (W H : Nat) (fl gl lv bx : Int64) (bd : Bool) (p kp : Nat) (M : Nat → Nat) (mv pu : Int32) (en : Nat) (ma dn : Nat → Int32) (ct ln : Nat) (pth : Nat → Int32) (fd : Int32) (nn N k : Nat) (sp su xp : Nat → Int32) (pi_width : Int32) (pi_height : Int32) (pi_walls : Int64) (pi_goals : Int64) (pi_boxes : Int64) (pi_person : Int64) (pi_x : Int32) (pi_endedRows : Int32) (aBS : Nat → Int32) (aMC : Nat → Int32) (aGL : Nat → Int32) (aBL : Nat → Int32) (aGB : Nat → Int32) (aBB : Nat → Int32) (aSK : Nat → Int32) (aSN : Nat → Int32) (se_overfull : Int32) (aSB : Nat → Int64) (aSL : Nat → Int32) (aSS : Nat → Int32) (mo_thrown : Int32) (mo_newFloor : Int64) (mo_newGoals : Int64) (mo_newBoxes : Int64) (mo_newPerson : Int32) (mo_newWidth : Int32) (mo_many : Int32) (aXB : Nat → Int64) (aXC : Nat → Int32) (aXF : Nat → Int32) (aXY : Nat → Int32) (aXS : Nat → Int32) (aFA : Nat → Int32) (aLE : Nat → Int32) (aOUT : Nat → Int64), i ≤ L → L < i + 5 * n → jInv L i bc bs tl W H fl gl lv bx bd p kp M en ma dn ct ln pth nn N k fd sp su xp → LW_law_23 L xs lawPost n bc bs (nI tl) tx pi_width pi_height pi_walls pi_goals pi_boxes pi_person pi_x pi_endedRows (nI W) (nI H) fl gl lv bx (psL bd p) (sh lv 0 ||| sh lv 2) (sh lv 1 ||| sh lv 3) aBS (nI kp) mv pu (nI en) ma aMC aGL aBL aGB aBB aSK aSN (nI ct) (nI ln) fd se_overfull nn aSB nn aSL nn sp nn su N aSS mo_thrown (nI tl) (b01 bd) (nI W) (nI H) (nI p) mv pu fl gl bx mo_newFloor mo_newGoals mo_newBoxes mo_newPerson mo_newWidth (nI kp) mo_many (nI ct) (nI ln) tx dn aXB aXC aXF aXY aXS xp aFA aLE aOUT (nI i) := by
  intro n
  induction n with
  | zero => intro i bc bs tl tx W H fl gl lv bx bd p kp M mv pu en ma dn ct ln pth fd nn N k sp su xp pi_width pi_height pi_walls pi_goals pi_boxes pi_person pi_x pi_endedRows aBS aMC aGL aBL aGB aBB aSK aSN se_overfull aSB aSL aSS mo_thrown mo_newFloor mo_newGoals mo_newBoxes mo_newPerson mo_newWidth mo_many aXB aXC aXF aXY aXS aFA aLE aOUT h1 h2; omega
  | succ n ih =>
    intro i bc bs tl tx W H fl gl lv bx bd p kp M mv pu en ma dn ct ln pth fd nn N k sp su xp pi_width pi_height pi_walls pi_goals pi_boxes pi_person pi_x pi_endedRows aBS aMC aGL aBL aGB aBB aSK aSN se_overfull aSB aSL aSS mo_thrown mo_newFloor mo_newGoals mo_newBoxes mo_newPerson mo_newWidth mo_many aXB aXC aXF aXY aXS aFA aLE aOUT h1 h2 hJ
    obtain ⟨j1, j2, j3, j4, j5, j6, j7, j8⟩ := hJ
    have j2' := j2
    obtain ⟨a1, a2, a3, a4, a5, a6, a7, a8, a9, a10, a11, a12⟩ := j2'
    have e5 : nI i + (5 : Int32) = nI (i + 5) := by rw [show (5 : Int32) = nI 5 from rfl, nI_add]
    unfold LW_law_23
    rcases end_lt hL h1 with hend | ⟨hi, hend⟩
    · refine iteT hend ?_
      exact (rfl : (1 : Int32) = 1)
    have nx : ∀ {bc bs tl : Nat} {tx : Nat → Int32} {W H : Nat} {fl gl lv bx : Int64} {bd : Bool} {p kp : Nat} {M : Nat → Nat} {mv pu : Int32} {en : Nat} {ma dn : Nat → Int32} {ct ln : Nat} {pth : Nat → Int32} {fd : Int32} {nn N k : Nat} {sp su xp : Nat → Int32} {pi_width : Int32} {pi_height : Int32} {pi_walls : Int64} {pi_goals : Int64} {pi_boxes : Int64} {pi_person : Int64} {pi_x : Int32} {pi_endedRows : Int32} {aBS : Nat → Int32} {aMC : Nat → Int32} {aGL : Nat → Int32} {aBL : Nat → Int32} {aGB : Nat → Int32} {aBB : Nat → Int32} {aSK : Nat → Int32} {aSN : Nat → Int32} {se_overfull : Int32} {aSB : Nat → Int64} {aSL : Nat → Int32} {aSS : Nat → Int32} {mo_thrown : Int32} {mo_newFloor : Int64} {mo_newGoals : Int64} {mo_newBoxes : Int64} {mo_newPerson : Int32} {mo_newWidth : Int32} {mo_many : Int32} {aXB : Nat → Int64} {aXC : Nat → Int32} {aXF : Nat → Int32} {aXY : Nat → Int32} {aXS : Nat → Int32} {aFA : Nat → Int32} {aLE : Nat → Int32} {aOUT : Nat → Int64}, jInv L (i + 5) bc bs tl W H fl gl lv bx bd p kp M en ma dn ct ln pth nn N k fd sp su xp → LW_law_23 L xs lawPost n bc bs (nI tl) tx pi_width pi_height pi_walls pi_goals pi_boxes pi_person pi_x pi_endedRows (nI W) (nI H) fl gl lv bx (psL bd p) (sh lv 0 ||| sh lv 2) (sh lv 1 ||| sh lv 3) aBS (nI kp) mv pu (nI en) ma aMC aGL aBL aGB aBB aSK aSN (nI ct) (nI ln) fd se_overfull nn aSB nn aSL nn sp nn su N aSS mo_thrown (nI tl) (b01 bd) (nI W) (nI H) (nI p) mv pu fl gl bx mo_newFloor mo_newGoals mo_newBoxes mo_newPerson mo_newWidth (nI kp) mo_many (nI ct) (nI ln) tx dn aXB aXC aXF aXY aXS xp aFA aLE aOUT (nI i + (5 : Int32)) := fun {bc bs tl tx W H fl gl lv bx bd p kp M mv pu en ma dn ct ln pth fd nn N k sp su xp pi_width pi_height pi_walls pi_goals pi_boxes pi_person pi_x pi_endedRows aBS aMC aGL aBL aGB aBB aSK aSN se_overfull aSB aSL aSS mo_thrown mo_newFloor mo_newGoals mo_newBoxes mo_newPerson mo_newWidth mo_many aXB aXC aXF aXY aXS aFA aLE aOUT} h => by
      rw [e5]
      exact ih (i + 5) bc bs tl tx W H fl gl lv bx bd p kp M mv pu en ma dn ct ln pth fd nn N k sp su xp pi_width pi_height pi_walls pi_goals pi_boxes pi_person pi_x pi_endedRows aBS aMC aGL aBL aGB aBB aSK aSN se_overfull aSB aSL aSS mo_thrown mo_newFloor mo_newGoals mo_newBoxes mo_newPerson mo_newWidth mo_many aXB aXC aXF aXY aXS aFA aLE aOUT hi (by omega) h
    have in0 : vp_in (nI i) L := vp_inN (by omega) (by omega)
    have in1 : vp_in (nI i + (1 : Int32)) L := by rw [nI_1]; exact vp_inN (by omega) (by omega)
    have in2 : vp_in (nI i + (2 : Int32)) L := by rw [show (2 : Int32) = nI 2 from rfl, nI_add]; exact vp_inN (by omega) (by omega)
    have in3 : vp_in (nI i + (3 : Int32)) L := by rw [show (3 : Int32) = nI 3 from rfl, nI_add]; exact vp_inN (by omega) (by omega)
    have in4 : vp_in (nI i + (4 : Int32)) L := by rw [show (4 : Int32) = nI 4 from rfl, nI_add]; exact vp_inN (by omega) (by omega)
    obtain ⟨bu1, bu2, bu3⟩ := budI_1 hi j8
    have bdp : bd = true → tb fl p = true := fun e => (a11 e).1.2.1
    have bdn : bd = false → W = 0 ∧ H = 0 := fun e => ⟨(a12 e).1, (a12 e).2.1⟩
    clear ih
    refine iteP (fun h => absurd h hend) (fun _ => ⟨in0, ?_⟩)
    refine iteP (fun _ => ?_) (fun _ => ?_)
    · obtain ⟨r, tl', tx', h1, h2, h3⟩ := unit_both (v := xs (nI i + (1 : Int32)).toNatClampNeg) (tx := tx) j1
      exact ⟨in1, h2 _ ⟨in1, h3 _ _ (iteT rfl (nx ⟨h1, j2, j3, j4, j5, j6, j7, budI_0 j8⟩))⟩⟩
    refine iteP (fun _ => ?_) (fun _ => ?_)
    · obtain ⟨r, W', H', fl', gl', lv', bx', bd', p', kp', en', mv', pu', h1, h2⟩ := read_both (tx := tx) (mv := mv) (pu := pu) j1 j2 j3
      exact h1 _ _ _ _ _ _ _ _ _ (fun k2 k3 _ _ _ _ _ _ _ _ => h2 _ _ _ _ _ _ _ (fun _ _ _ _ _ => iteT rfl (nx ⟨Nat.zero_le 160, k2, k3, j4, j5, j6, j7, budI_0 j8⟩)))
    refine iteP (fun _ => ?_) (fun _ => ?_)
    · obtain ⟨r, bx', p', kp', M', mv', pu', k2, h1, h2⟩ := row_both (tx := tx) (mv := mv) (pu := pu) j1 j2 j3
      exact h1 _ (fun en' ma' c1 => h2 _ _ (fun dn' c2 => iteT rfl (nx ⟨Nat.zero_le 160, k2, ⟨c1, c2⟩, j4, j5, j6, j7, budI_0 j8⟩)))
    refine iteP (fun _ => ?_) (fun _ => ?_)
    · obtain ⟨r, a, bx', p', kp', M', mv', pu', k2, h1, h2⟩ := move_both (v := xs (nI i + (1 : Int32)).toNatClampNeg) (mv := mv) (pu := pu) j2 j3
      refine ⟨in1, bu1, bu2, h1 _ _ (fun en' ma' out' c1 ho => ⟨in1, h2 _ _ (fun dn' c2 => ?_)⟩)⟩
      unfold MO_thrown
      refine iteT rfl ?_
      refine iteP (fun e => ⟨in00, ?_⟩) (fun e => nx ⟨j1, k2, ⟨c1, c2⟩, j4, j5, j6, j7, bu3⟩)
      exact iteT (ho e) (nx ⟨j1, k2, ⟨c1, c2⟩, j4, j5, j6, j7, bu3⟩)
    refine iteP (fun _ => ?_) (fun _ => ?_)
    · obtain ⟨r, bx', p', kp', mv', pu', k2, h1, h2⟩ := undo_both (mv := mv) (pu := pu) j2 j3
      exact h1 _ (fun en' k3 => h2 _ _ (iteT rfl (nx ⟨j1, k2, k3, j4, j5, j6, j7, budI_0 j8⟩)))
    refine iteP (fun _ => ?_) (fun _ => ?_)
    · obtain ⟨r, h1, h2⟩ := told_both (W := W) (H := H) (gl := gl) (bx := bx) (mv := mv) (pu := pu) (bd := bd) (v := xs (nI i + (1 : Int32)).toNatClampNeg) a9
      exact ⟨in1, h1 _ ⟨in1, h2 _ _ (iteT rfl (nx ⟨j1, j2, j3, j4, j5, j6, j7, budI_0 j8⟩))⟩⟩
    refine iteP (fun _ => ?_) (fun _ => ?_)
    · obtain ⟨r, h1, h2⟩ := pic_both (fl := fl) (gl := gl) (bx := bx) (v := xs (nI i + (1 : Int32)).toNatClampNeg) a1 a2 a9 bdn
      exact ⟨in1, h1 _ ⟨in1, h2 _ _ (iteT rfl (nx ⟨j1, j2, j3, j4, j5, j6, j7, budI_0 j8⟩))⟩⟩
    refine iteP (fun _ => ?_) (fun _ => ?_)
    · obtain ⟨r, h1, h2⟩ := letter_both (v := xs (nI i + (1 : Int32)).toNatClampNeg) j3.1 j3.2 (h8_of j2)
      exact ⟨in1, h1 _ ⟨in1, h2 _ _ (iteT rfl (nx ⟨j1, j2, j3, j4, j5, j6, j7, budI_0 j8⟩))⟩⟩
    refine iteP (fun _ => ?_) (fun _ => ?_)
    · obtain ⟨r, h1, h2⟩ := reach_both (bx := bx) a1 a2 a3 a9 bdp
      exact h1 _ (h2 _ _ (iteT rfl (nx ⟨j1, j2, j3, j4, j5, j6, j7, budI_0 j8⟩)))
    refine iteP (fun _ => ?_) (fun _ => ?_)
    · obtain ⟨r, a, h1, h2⟩ := way_both (bx := bx) (v1 := xs (nI i + (1 : Int32)).toNatClampNeg) (v2 := xs (nI i + (2 : Int32)).toNatClampNeg) a1 a2 a3 a9 bdp bdn
      refine ⟨in1, in2, bu1, bu2, h1 _ _ (fun out' ho => ⟨in1, in2, h2 _ _ _ (fun fa' => ?_)⟩)⟩
      unfold MO_thrown
      refine iteT rfl ?_
      refine iteP (fun e => ⟨in00, ?_⟩) (fun e => nx ⟨j1, j2, j3, j4, j5, j6, j7, bu3⟩)
      exact iteT (ho e) (nx ⟨j1, j2, j3, j4, j5, j6, j7, bu3⟩)
    refine iteP (fun _ => ?_) (fun _ => ?_)
    · obtain ⟨r, a, h1, h2⟩ := dead_both (v1 := xs (nI i + (1 : Int32)).toNatClampNeg) (v2 := xs (nI i + (2 : Int32)).toNatClampNeg) a1 a2 a3 a4 a8
      refine ⟨in1, in2, bu1, bu2, h1 _ _ (fun out' ho => ⟨in1, in2, h2 _ _ ?_⟩)⟩
      unfold MO_thrown
      refine iteT rfl ?_
      refine iteP (fun e => ⟨in00, ?_⟩) (fun e => nx ⟨j1, j2, j3, j4, j5, j6, j7, bu3⟩)
      have ho' := ho e
      refine iteP (fun ea => ?_) (fun ea => ?_)
      · rw [if_pos ea] at ho'
        unfold LW_law_466
        exact iteT ho' (nx ⟨j1, j2, j3, j4, j5, j6, j7, bu3⟩)
      · rw [if_neg ea] at ho'
        unfold LW_law_466
        exact iteT ho' (nx ⟨j1, j2, j3, j4, j5, j6, j7, bu3⟩)
    refine iteP (fun _ => ?_) (fun _ => ?_)
    · obtain ⟨r, h1, h2⟩ := fast_both a1 a2 a3 a4 a5 a6 a8
      exact h1 _ (h2 _ _ (iteT rfl (nx ⟨j1, j2, j3, j4, j5, j6, j7, budI_0 j8⟩)))
    refine iteP (fun _ => ?_) (fun _ => ?_)
    · obtain ⟨r, h1, h2⟩ := stuck_both a1 a2 a3 a4 a5 a6 a8
      exact h1 _ (h2 _ _ (iteT rfl (nx ⟨j1, j2, j3, j4, j5, j6, j7, budI_0 j8⟩)))
    refine iteP (fun _ => ?_) (fun _ => ?_)
    · obtain ⟨r, h1, h2⟩ := bound_both (gl := gl) a1 a2 a3 a6 a7
      exact h1 _ _ _ _ _ _ _ _ _ (fun _ _ _ _ _ _ _ _ => h2 _ _ _ _ (fun _ _ => iteT rfl (nx ⟨j1, j2, j3, j4, j5, j6, j7, budI_0 j8⟩)))
    refine iteP (fun _ => ?_) (fun _ => ?_)
    · obtain ⟨bv1, bv2, bv3⟩ := budI_2 hi j8
      obtain ⟨r, a, h1, h2⟩ := pushes_both (v1 := xs (nI i + (1 : Int32)).toNatClampNeg) (v2 := xs (nI i + (2 : Int32)).toNatClampNeg) (v3 := xs (nI i + (3 : Int32)).toNatClampNeg) (v4 := xs (nI i + (4 : Int32)).toNatClampNeg) a1 a2 a3
      refine ⟨in1, in2, in3, in4, bv1, bv2, h1 _ _ _ (fun bs' out' ho => ⟨in1, in2, in3, in4, h2 _ _ _ (fun fa' => ?_)⟩)⟩
      unfold MO_thrown
      refine iteT rfl ?_
      refine iteP (fun e => ⟨in00, ?_⟩) (fun e => nx ⟨j1, j2, j3, j4, j5, j6, j7, bv3⟩)
      exact iteT (ho e) (nx ⟨j1, j2, j3, j4, j5, j6, j7, bv3⟩)
    refine iteP (fun _ => ?_) (fun _ => ?_)
    · refine ⟨in1, ?_⟩
      rcases search_both (v := xs (nI i + (1 : Int32)).toNatClampNeg) j2 with ⟨h1, h2⟩ | ⟨r, ct', ln', pth', hln, h1, h2⟩
      · exact ⟨0, 0, Nat.zero_le _, Nat.zero_le _, h1 _ _ _ _ _ _ _ _ _ _ _ _ _ _ ⟨in1, h2 _ _ _ _ _ _ _ _ _ _ _ (iteT rfl (nx ⟨j1, j2, j3, j4, j5, j6, j7, by rw [Nat.sub_zero, Nat.sub_zero]; exact budI_0 j8⟩))⟩⟩
      · obtain ⟨b, s, b1, b2, b3, b4⟩ := budI_s (ct := ct') j5 hi j8
        refine ⟨b, s, b1, b2, h1 _ _ _ _ _ _ _ _ _ _ _ _ _ _ _ j5 b3 (fun nn' N' k' fd' ov' sb' sl' sp' su' ss' g1 g2 g3 => ⟨in1, h2 _ _ _ _ _ _ _ _ _ _ _ (fun mm' xb' xc' xf' xy' xs' xp' g4 => iteT rfl ?_)⟩)⟩
        subst g2
        exact nx ⟨j1, j2, j3, hln, g1, g3, g4, b4⟩
    refine iteP (fun _ => ?_) (fun _ => ?_)
    · refine ⟨in1, PB_push_spec j4 (by rcases j5.two with e | e <;> omega) j6 ⟨in1, MO_push_spec j4 j7 (iteT rfl (nx ⟨j1, j2, j3, j4, j5, j6, j7, budI_0 j8⟩))⟩⟩
    refine iteP (fun _ => ?_) (fun _ => ?_)
    · unfold PB_states MO_states
      exact iteT rfl (nx ⟨j1, j2, j3, j4, j5, j6, j7, budI_0 j8⟩)
    exact nx ⟨j1, j2, j3, j4, j5, j6, j7, budI_0 j8⟩
theorem pure_law (L : Nat) (hL : L ≤ 2560) (xs : Nat → Int32) : ∃ n, LW_law_23 L xs lawPost n 600991 7203625 0 (fun _ => 0) 0 0 0 0 0 0 0 0 0 0 0 0 0 0 0 0 0 (fun _ => 0) 0 0 0 0 (fun _ => 0) (fun _ => 0) (fun _ => 0) (fun _ => 0) (fun _ => 0) (fun _ => 0) (fun _ => 0) (fun _ => 0) 0 0 0 0 128 (fun _ => 0) 128 (fun _ => 0) 128 (fun _ => 0) 128 (fun _ => 0) 256 (fun _ => 0) 0 0 0 0 0 0 0 0 0 0 0 0 0 0 0 0 0 0 0 0 (fun _ => 0) (fun _ => 0) (fun _ => 0) (fun _ => 0) (fun _ => 0) (fun _ => 0) (fun _ => 0) (fun _ => 0) (fun _ => 0) (fun _ => 0) (fun _ => 0) 0 := by
  have hb : bInv 0 0 0 0 0 0 false 0 0 (fun _ => 0) := ⟨by decide, by decide, (fun i _ h => by rw [tb_zero] at h; cases h), (fun i _ h => h), (fun i _ h => h), (by rw [cnt_zero]; decide), Nat.le_refl _, ⟨(fun i _ h => h), (fun i j _ _ h _ => by rw [tb_zero] at h; cases h), (fun Y _ _ i _ h => by rw [tb_zero] at h; cases h)⟩, by decide, by decide, fun h => (by cases h), fun _ => ⟨rfl, rfl, rfl⟩⟩
  have hl : lInv 0 (fun _ => 0) 0 (fun _ => 0) (fun _ => 0) := lInv_0
  have hj : jInv L 0 600991 7203625 0 0 0 0 0 0 0 false 0 0 (fun _ => 0) 0 (fun _ => 0) (fun _ => 0) 0 0 (fun _ => 0) 128 256 8 0 (fun _ => 0) (fun _ => 0) (fun _ => 0) := ⟨by decide, hb, hl, by decide, Or.inl ⟨rfl, rfl, rfl⟩, pathOK_0, fun j h => absurd h (Nat.not_lt_zero _), by unfold budI; omega⟩
  have h := law_loop L hL xs (L + 1) 0 600991 7203625 0 (fun _ => 0) 0 0 0 0 0 0 false 0 0 (fun _ => 0) 0 0 0 (fun _ => 0) (fun _ => 0) 0 0 (fun _ => 0) 0 128 256 8 (fun _ => 0) (fun _ => 0) (fun _ => 0) 0 0 0 0 0 0 0 0 (fun _ => 0) (fun _ => 0) (fun _ => 0) (fun _ => 0) (fun _ => 0) (fun _ => 0) (fun _ => 0) (fun _ => 0) 0 (fun _ => 0) (fun _ => 0) (fun _ => 0) 0 0 0 0 0 0 0 (fun _ => 0) (fun _ => 0) (fun _ => 0) (fun _ => 0) (fun _ => 0) (fun _ => 0) (fun _ => 0) (fun _ => 0) (Nat.zero_le _) (by omega) hj
  have e1 : sh (0 : Int64) 0 ||| sh 0 2 = 0 := by decide
  have e2 : sh (0 : Int64) 1 ||| sh 0 3 = 0 := by decide
  rw [e1, e2] at h
  exact ⟨L + 1, h⟩
