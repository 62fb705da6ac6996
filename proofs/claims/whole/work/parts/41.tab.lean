/-! rows in which a state is found by what it is: the next free place on from where it belongs -/
def nz (tab : Nat → Nat) : Nat → Nat
  | 0 => 0
  | k + 1 => nz tab k + if tab k = 0 then 0 else 1
theorem nz_free {tab : Nat → Nat} : ∀ N, nz tab N < N → ∃ s, s < N ∧ tab s = 0 := by
  intro N
  induction N with
  | zero => intro h; exact absurd h (Nat.not_lt_zero _)
  | succ N ih =>
    intro h
    by_cases e : tab N = 0
    · exact ⟨N, by omega, e⟩
    · have h : nz tab N + (if tab N = 0 then 0 else 1) < N + 1 := h
      rw [if_neg e] at h
      obtain ⟨s, h1, h2⟩ := ih (by omega)
      exact ⟨s, by omega, h2⟩
theorem nz_upd {tab : Nat → Nat} {s v : Nat} : ∀ N, nz (updN tab s v) N ≤ nz tab N + 1 := by
  have key : ∀ N, nz (updN tab s v) N ≤ nz tab N + if s < N then 1 else 0 := by
    intro N
    induction N with
    | zero => exact Nat.le_refl _
    | succ N ih =>
      show nz (updN tab s v) N + (if updN tab s v N = 0 then 0 else 1) ≤ nz tab N + (if tab N = 0 then 0 else 1) + _
      by_cases e : N = s
      · subst e
        rw [if_neg (show ¬ N < N by omega)] at ih
        rw [if_pos (show N < N + 1 by omega)]
        have : (if updN tab N v N = 0 then 0 else 1) ≤ 1 := by split <;> omega
        omega
      · rw [updN_other _ _ e]
        by_cases q : s < N
        · rw [if_pos q] at ih; rw [if_pos (show s < N + 1 by omega)]; omega
        · rw [if_neg q] at ih; rw [if_neg (show ¬ s < N + 1 by omega)]; omega
  intro N
  have := key N
  split at this <;> omega
def tOK (N : Nat) (tab h : Nat → Nat) (m : Nat) : Prop := (∀ s, s < N → tab s ≤ m) ∧ (∀ i, i < m → ∃ d, d < N ∧ tab ((h i + d) % N) = i + 1 ∧ ∀ e, e < d → ¬ tab ((h i + e) % N) = 0) ∧ nz tab N ≤ m
/-- where a look ends -/
def hit (tab : Nat → Nat) (K : Nat → Prop) (s : Nat) : Prop := tab s = 0 ∨ K (tab s - 1)
theorem probe_ex {N g m : Nat} {tab h : Nat → Nat} (K : Nat → Prop) (hT : tOK N tab h m) (hm : m < N) (hg : g < N) : ∃ d, d < N ∧ hit tab K ((g + d) % N) ∧ ∀ e, e < d → ¬ hit tab K ((g + e) % N) := by
  obtain ⟨s, h1, h2⟩ := nz_free N (Nat.lt_of_le_of_lt hT.2.2 hm)
  have ex : ∃ d, hit tab K ((g + d) % N) := by
    by_cases q : g ≤ s
    · exact ⟨s - g, Or.inl (by rw [show g + (s - g) = s by omega, Nat.mod_eq_of_lt h1]; exact h2)⟩
    · refine ⟨N + s - g, Or.inl ?_⟩
      rw [show g + (N + s - g) = s + N by omega, Nat.add_mod_right, Nat.mod_eq_of_lt h1]
      exact h2
  obtain ⟨d, hd, hl⟩ := pk_least _ ex
  refine ⟨d, ?_, hd, hl⟩
  apply Classical.byContradiction
  intro q
  have := hl (d - N) (by omega)
  rw [show (g + d) % N = (g + (d - N)) % N by rw [show g + d = g + (d - N) + N by omega, Nat.add_mod_right]] at hd
  exact this hd
theorem probe_none {N g d m : Nat} {tab h : Nat → Nat} {K : Nat → Prop} (hT : tOK N tab h m) (hN : 0 < N) (hK : ∀ i, i < m → ¬ K i) (hd : hit tab K ((g + d) % N)) (hl : ∀ e, e < d → ¬ hit tab K ((g + e) % N)) : tab ((g + d) % N) = 0 ∧ ∀ e, e < d → ¬ tab ((g + e) % N) = 0 := by
  refine ⟨?_, fun e he q => hl e he (Or.inl q)⟩
  apply Classical.byContradiction
  intro q
  rcases hd with h1 | h1
  · exact q h1
  · have := hT.1 _ (Nat.mod_lt (g + d) hN)
    exact hK _ (by omega) h1
theorem probe_some {N g d m i : Nat} {tab h : Nat → Nat} {K : Nat → Prop} (hT : tOK N tab h m) (hi : i < m) (hKi : K i) (hh : h i = g) (hl : ∀ e, e < d → ¬ hit tab K ((g + e) % N)) : ¬ tab ((g + d) % N) = 0 := by
  obtain ⟨di, -, h2, h3⟩ := hT.2.1 i hi
  rw [hh] at h2 h3
  have hit_i : hit tab K ((g + di) % N) := Or.inr (by rw [h2]; exact hKi)
  rcases Nat.lt_trichotomy d di with q | q | q
  · exact h3 d q
  · rw [q, h2]; omega
  · exact absurd hit_i (hl di q)
theorem tOK_add {N g d m : Nat} {tab h h' : Nat → Nat} (hT : tOK N tab h m) (hd : d < N) (h0 : tab ((g + d) % N) = 0) (hl : ∀ e, e < d → ¬ tab ((g + e) % N) = 0) (hh : ∀ i, i < m → h' i = h i) (hm : h' m = g) : tOK N (updN tab ((g + d) % N) (m + 1)) h' (m + 1) := by
  obtain ⟨a, b, c⟩ := hT
  refine ⟨fun s hs => ?_, fun i hi => ?_, ?_⟩
  · by_cases e : s = (g + d) % N
    · rw [e, updN_same]; exact Nat.le_refl _
    · rw [updN_other _ _ e]; have := a s hs; omega
  · by_cases e : i = m
    · subst e
      refine ⟨d, hd, by rw [hm, updN_same], fun e he => ?_⟩
      rw [hm]
      by_cases q : (g + e) % N = (g + d) % N
      · rw [q, updN_same]; omega
      · rw [updN_other _ _ q]; exact hl e he
    · obtain ⟨di, b1, b2, b3⟩ := b i (by omega)
      refine ⟨di, b1, ?_, fun e he => ?_⟩
      · rw [hh i (by omega), updN_other _ _ (fun q => by rw [q, h0] at b2; omega)]
        exact b2
      · rw [hh i (by omega)]
        by_cases q : (h i + e) % N = (g + d) % N
        · rw [q, updN_same]; omega
        · rw [updN_other _ _ q]; exact b3 e he
  · have := nz_upd (tab := tab) (s := (g + d) % N) (v := m + 1) N
    omega
theorem nz_none : ∀ N, nz (fun _ => 0) N = 0 := by
  intro N
  induction N with
  | zero => rfl
  | succ N ih => show nz (fun _ => 0) N + (if 0 = 0 then 0 else 1) = 0; rw [ih]; rfl
theorem tOK_0 (N : Nat) (h : Nat → Nat) : tOK N (fun _ => 0) h 0 := ⟨fun _ _ => Nat.le_refl _, fun i hi => absurd hi (Nat.not_lt_zero _), by rw [nz_none]; exact Nat.le_refl _⟩
theorem tOK.cg {N m : Nat} {tab h h' : Nat → Nat} (hT : tOK N tab h m) (e : ∀ i, i < m → h' i = h i) : tOK N tab h' m := ⟨hT.1, fun i hi => by rw [e i hi]; exact hT.2.1 i hi, hT.2.2⟩
/-! the program's places -/
def lowB (k : Nat) (X : Int32) : Nat := X.toBitVec.toNat % 2 ^ k
theorem lowB_lt (k : Nat) (X : Int32) : lowB k X < 2 ^ k := Nat.mod_lt _ (Nat.two_pow_pos k)
theorem lowB_and {k : Nat} (X : Int32) {m : Int32} (hm : m.toBitVec.toNat = 2 ^ k - 1) : X &&& m = nI (lowB k X) := pk_and X k hm
def mixC (B : Int64) (v : Int32) : Int32 := ((((B * (-7046029254386353131 : Int64)) + v.toInt64) * (-7046029254386353131 : Int64)).toUInt64 >>> ((40 : Int32).toInt64.toUInt64 &&& Int64.toUInt64 63)).toInt64.toInt32
def ssR (tab : Nat → Nat) (N : Nat) (ss : Nat → Int32) : Prop := ∀ s, s < N → ss s = nI (tab s)
def sbR (SB : Nat → Int64) (m : Nat) (a : Nat → Int64) : Prop := ∀ i, i < m → a i = SB i
def slR (SL : Nat → Nat) (m : Nat) (a : Nat → Int32) : Prop := ∀ i, i < m → a i = nI (SL i)
theorem slot_37 {nb nl N k m g low : Nat} {sb : Nat → Int64} {sl ss : Nat → Int32} {tab : Nat → Nat} {SB : Nat → Int64} {SL : Nat → Nat} {B : Int64} {post : Int32 → Prop} (hN : N = 2 ^ k) (hk : k ≤ 14) (hm : m ≤ nb) (hm2 : m ≤ nl) (hnb : nb ≤ 10000) (hnl : nl ≤ 10000) (hS : ∀ i, i < m → SL i < 64) (hlow : low < 64) (hsb : sbR SB m sb) (hsl : slR SL m sl) (hss : ssR tab N ss) (ht : ∀ s, s < N → tab s ≤ m)
    (dd : Nat) (hdd : dd < N) (hd : hit tab (fun i => SB i = B ∧ SL i = low) ((g + dd) % N)) (hl : ∀ e, e < dd → ¬ hit tab (fun i => SB i = B ∧ SL i = low) ((g + e) % N)) (h : post (nI ((g + dd) % N))) :
    ∀ n d, d ≤ dd → dd - d < n → SE_slotOf_37 nb sb nl sl N ss post n B (nI low) (nI (N - 1)) (nI ((g + d) % N)) (nI d) := by
  have hN0 : 0 < N := by rw [hN]; exact Nat.two_pow_pos k
  have hNb : N ≤ 16384 := by rw [hN]; exact Nat.pow_le_pow_right (n := 2) (by decide) hk
  intro n
  induction n with
  | zero => intro d _ h; exact absurd h (Nat.not_lt_zero _)
  | succ n ih =>
    intro d hdle hn
    unfold SE_slotOf_37
    have hs : (g + d) % N < N := Nat.mod_lt _ hN0
    by_cases q : N - 1 ≤ d
    · rw [if_pos (nI_le q (by omega)), show d = dd by omega]; exact h
    · rw [if_neg (nI_ge (by omega) (by omega))]
      refine ⟨vp_inN hs (by omega), fun v9 e9 => ?_⟩
      rw [nI_clamp (by omega), hss _ hs] at e9
      have next : ¬ hit tab (fun i => SB i = B ∧ SL i = low) ((g + d) % N) → SE_slotOf_86 nb sb nl sl N ss (fun v1' v3' v4' v7' v8' => SE_slotOf_37 nb sb nl sl N ss post n v1' v3' v4' v7' v8') post B (nI low) (nI (N - 1)) (nI ((g + d) % N)) (nI d) := fun hno => by
        intro v7 e7
        rw [nI_1, pk_andN (by omega) k (by rw [pk_tn (by omega), hN])] at e7
        rw [e7, nI_1, ← hN, show ((g + d) % N + 1) % N = (g + (d + 1)) % N by rw [Nat.mod_add_mod]; rfl]
        have : ¬ d = dd := fun e => hno (by rw [e]; exact hd)
        exact ih (d + 1) (by omega) (by omega)
      by_cases q0 : tab ((g + d) % N) = 0
      · rw [q0] at e9
        have e9 : v9 = -1 := e9
        rw [e9, if_pos (by decide)]
        have : d = dd := by
          apply Classical.byContradiction
          intro q
          exact hl d (by omega) (Or.inl q0)
        rw [this]; exact h
      · have htl := ht _ hs
        rw [show (1 : Int32) = nI 1 from rfl, pk_sub (by omega)] at e9
        subst e9
        rw [if_neg (nI_pos (by omega)), nI_clamp (by omega)]
        refine ⟨vp_inN (by omega) (by omega), ?_⟩
        rw [hsb _ (by omega), hsl _ (by omega)]
        by_cases q1 : SB (tab ((g + d) % N) - 1) = B
        · rw [if_pos q1]
          refine ⟨vp_inN (by omega) (by omega), ?_⟩
          by_cases q2 : SL (tab ((g + d) % N) - 1) = low
          · rw [if_pos (by rw [q2])]
            have : d = dd := by
              apply Classical.byContradiction
              intro q
              exact hl d (by omega) (Or.inr ⟨q1, q2⟩)
            rw [this]; exact h
          · have := hS (tab ((g + d) % N) - 1) (by omega)
            rw [if_neg (fun e => q2 ((nI_eq (by omega) (by omega)).mp e))]
            exact next (fun hh => hh.elim q0 (fun hh => q2 hh.2))
        · rw [if_neg q1]
          exact next (fun hh => hh.elim q0 (fun hh => q1 hh.1))
theorem SE_slotOf_spec {nb nl N k m low : Nat} {sb : Nat → Int64} {sl ss : Nat → Int32} {tab h : Nat → Nat} {SB : Nat → Int64} {SL : Nat → Nat} {B : Int64} {post : Int32 → Prop} (hN : N = 2 ^ k) (hk : k ≤ 14) (hm : m ≤ nb) (hm2 : m ≤ nl) (hmN : m < N) (hnb : nb ≤ 10000) (hnl : nl ≤ 10000) (hS : ∀ i, i < m → SL i < 64) (hlow : low < 64) (hsb : sbR SB m sb) (hsl : slR SL m sl) (hss : ssR tab N ss) (hT : tOK N tab h m)
    (hp : ∀ d, d < N → hit tab (fun i => SB i = B ∧ SL i = low) ((lowB k (mixC B (nI low)) + d) % N) → (∀ e, e < d → ¬ hit tab (fun i => SB i = B ∧ SL i = low) ((lowB k (mixC B (nI low)) + e) % N)) → post (nI ((lowB k (mixC B (nI low)) + d) % N))) :
    SE_slotOf nb sb nl sl N ss B (nI low) post := by
  have hN0 : 0 < N := by rw [hN]; exact Nat.two_pow_pos k
  have hNb : N ≤ 16384 := by rw [hN]; exact Nat.pow_le_pow_right (n := 2) (by decide) hk
  intro v4 e4 v5 e5 v7 e7
  rw [show (1 : Int32) = nI 1 from rfl, pk_sub (by omega)] at e4
  subst e4
  have hg : lowB k (mixC B (nI low)) < N := by rw [hN]; exact lowB_lt k (mixC B (nI low))
  have e7 : v7 = mixC B (nI low) &&& nI (N - 1) := by unfold mixC; rw [e7, e5]
  rw [lowB_and (mixC B (nI low)) (by rw [pk_tn (by omega), hN])] at e7
  clear e5
  generalize lowB k (mixC B (nI low)) = G at *
  obtain ⟨d, d1, d2, d3⟩ := probe_ex (fun i => SB i = B ∧ SL i = low) hT hmN hg
  have := slot_37 (g := G) hN hk hm hm2 hnb hnl hS hlow hsb hsl hss hT.1 d d1 d2 d3 (hp d d1 d2 d3) (d + 1) 0 (Nat.zero_le _) (by omega)
  rw [show (G + 0) % N = G by rw [Nat.add_zero G]; exact Nat.mod_eq_of_lt hg] at this
  rw [e7]
  exact ⟨d + 1, this⟩
/-! the reference's seats -/
def lowS (X : Int64) : Nat := X.toBitVec.toNat % 32768
theorem lowS_lt (X : Int64) : lowS X < 32768 := Nat.mod_lt _ (by decide)
def mixR (B : Int64) (v : Int32) : Int64 := ((((B * (31 : Int64)) + v.toInt64) ^^^ (((B * (31 : Int64)) + v.toInt64).toUInt64 >>> ((29 : Int32).toInt64.toUInt64 &&& Int64.toUInt64 63)).toInt64) ^^^ (((B * (31 : Int64)) + v.toInt64).toUInt64 >>> ((47 : Int32).toInt64.toUInt64 &&& Int64.toUInt64 63)).toInt64)
theorem and_seat (x : Int64) : (x &&& (32767 : Int64)).toInt32 = nI (lowS x) := by
  unfold lowS
  have e : x = lN x.toBitVec.toNat := Int64.toBitVec_inj.mp (by show _ = BitVec.ofNat 64 _; simp)
  have hx := x.toBitVec.isLt
  generalize x.toBitVec.toNat = n at *
  rw [e, show (32767 : Int64) = lN 32767 from rfl, lN_and hx (by decide), lN_i, show (32767 : Nat) = 2 ^ 15 - 1 by decide, Nat.and_two_pow_sub_one_eq_mod]
def xsR (tab : Nat → Nat) (xs : Nat → Int32) : Prop := ∀ s, s < 32768 → xs s = nI (tab s) - 1
theorem seat_35 {m g low : Nat} {xb : Nat → Int64} {xc xs : Nat → Int32} {tab : Nat → Nat} {SB : Nat → Int64} {SL : Nat → Nat} {B : Int64} {post : Int32 → Prop} (hm : m ≤ 10001) (hS : ∀ i, i < m → SL i < 64) (hlow : low < 64) (hsb : sbR SB m xb) (hsl : slR SL m xc) (hss : xsR tab xs) (ht : ∀ s, s < 32768 → tab s ≤ m)
    (dd : Nat) (hd : hit tab (fun i => SB i = B ∧ SL i = low) ((g + dd) % 32768)) (hl : ∀ e, e < dd → ¬ hit tab (fun i => SB i = B ∧ SL i = low) ((g + e) % 32768)) (h : post (nI ((g + dd) % 32768))) :
    ∀ n d, d ≤ dd → dd - d < n → MO_seatOf_35 xb xc xs post n B (nI low) (nI ((g + d) % 32768)) := by
  intro n
  induction n with
  | zero => intro d _ h; exact absurd h (Nat.not_lt_zero _)
  | succ n ih =>
    intro d hdle hn
    unfold MO_seatOf_35
    have hs : (g + d) % 32768 < 32768 := Nat.mod_lt _ (by decide)
    refine ⟨vp_inN hs (by decide), ?_⟩
    rw [nI_clamp (by omega), hss _ hs]
    have next : ¬ hit tab (fun i => SB i = B ∧ SL i = low) ((g + d) % 32768) → MO_seatOf_78 xb xc xs (fun v1' v3' v6' => MO_seatOf_35 xb xc xs post n v1' v3' v6') post B (nI low) (nI ((g + d) % 32768)) := fun hno => by
      intro v6 e6
      rw [nI_1, show (32768 : Int32) = nI 32768 from rfl, pk_rem (by omega) (by decide) (by decide)] at e6
      rw [e6, show ((g + d) % 32768 + 1) % 32768 = (g + (d + 1)) % 32768 by rw [Nat.mod_add_mod]; rfl]
      have : ¬ d = dd := fun e => hno (by rw [e]; exact hd)
      exact ih (d + 1) (by omega) (by omega)
    by_cases q0 : tab ((g + d) % 32768) = 0
    · rw [q0, if_pos (by decide)]
      have : d = dd := by
        apply Classical.byContradiction
        intro q
        exact hl d (by omega) (Or.inl q0)
      rw [this]; exact h
    · have htl := ht _ hs
      rw [show (1 : Int32) = nI 1 from rfl, pk_sub (by omega), if_neg (nI_pos (by omega)), nI_clamp (by omega)]
      refine ⟨vp_inN hs (by decide), vp_inN (by omega) (by decide), ?_⟩
      rw [hsb _ (by omega), hsl _ (by omega)]
      by_cases q1 : SB (tab ((g + d) % 32768) - 1) = B
      · rw [if_pos q1]
        refine ⟨vp_inN hs (by decide), vp_inN (by omega) (by decide), ?_⟩
        by_cases q2 : SL (tab ((g + d) % 32768) - 1) = low
        · rw [if_pos (by rw [q2])]
          have : d = dd := by
            apply Classical.byContradiction
            intro q
            exact hl d (by omega) (Or.inr ⟨q1, q2⟩)
          rw [this]; exact h
        · have := hS (tab ((g + d) % 32768) - 1) (by omega)
          rw [if_neg (fun e => q2 ((nI_eq (by omega) (by omega)).mp e))]
          exact next (fun hh => hh.elim q0 (fun hh => q2 hh.2))
      · rw [if_neg q1]
        exact next (fun hh => hh.elim q0 (fun hh => q1 hh.1))
theorem MO_seatOf_spec {m low : Nat} {xb : Nat → Int64} {xc xs : Nat → Int32} {tab h : Nat → Nat} {SB : Nat → Int64} {SL : Nat → Nat} {B : Int64} {post : Int32 → Prop} (hm : m ≤ 10001) (hS : ∀ i, i < m → SL i < 64) (hlow : low < 64) (hsb : sbR SB m xb) (hsl : slR SL m xc) (hss : xsR tab xs) (hT : tOK 32768 tab h m)
    (hp : ∀ d, d < 32768 → hit tab (fun i => SB i = B ∧ SL i = low) ((lowS (mixR B (nI low)) + d) % 32768) → (∀ e, e < d → ¬ hit tab (fun i => SB i = B ∧ SL i = low) ((lowS (mixR B (nI low)) + e) % 32768)) → post (nI ((lowS (mixR B (nI low)) + d) % 32768))) :
    MO_seatOf xb xc xs B (nI low) post := by
  intro v4 e4 v4' e4' v6 e6
  have e6 : v6 = (mixR B (nI low) &&& (32767 : Int64)).toInt32 := by unfold mixR; rw [e6, e4', e4]
  rw [and_seat] at e6
  have hg : lowS (mixR B (nI low)) < 32768 := lowS_lt (mixR B (nI low))
  clear e4 e4'
  generalize lowS (mixR B (nI low)) = G at *
  obtain ⟨d, d1, d2, d3⟩ := probe_ex (fun i => SB i = B ∧ SL i = low) hT (by omega) hg
  have := seat_35 (g := G) hm hS hlow hsb hsl hss hT.1 d d2 d3 (hp d d1 d2 d3) (d + 1) 0 (Nat.zero_le _) (by omega)
  rw [show (G + 0) % 32768 = G by rw [Nat.add_zero G]; exact Nat.mod_eq_of_lt hg] at this
  rw [e6]
  exact ⟨d + 1, this⟩
