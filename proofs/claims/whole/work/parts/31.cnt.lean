/-! Long.bitCount counts bits: byte by byte -/
def pval (b : Nat → Nat) : Nat → Nat
  | 0 => 0
  | k + 1 => b 0 + 256 * pval (fun i => b (i + 1)) k
theorem pval_congr {k : Nat} : ∀ {b c : Nat → Nat}, (∀ i, i < k → b i = c i) → pval b k = pval c k := by
  induction k with
  | zero => intro b c _; rfl
  | succ k ih => intro b c h; unfold pval; rw [h 0 (by omega), ih (fun i hi => h (i + 1) (by omega))]
theorem pval_lt {k : Nat} : ∀ {b : Nat → Nat}, (∀ i, i < k → b i < 256) → pval b k < 256 ^ k := by
  induction k with
  | zero => intro b _; exact Nat.one_pos
  | succ k ih =>
    intro b h
    unfold pval
    have h0 := h 0 (by omega)
    have h1 := ih (b := fun i => b (i + 1)) (fun i hi => h (i + 1) (by omega))
    rw [Nat.pow_succ]
    omega
theorem pand1 {a c A C : Nat} (ha : a < 256) (hc : c < 256) : (a + 256 * A) &&& (c + 256 * C) = (a &&& c) + 256 * (A &&& C) := by
  have h1 : ((a + 256 * A) &&& (c + 256 * C)) % 2 ^ 8 = ((a + 256 * A) % 2 ^ 8) &&& ((c + 256 * C) % 2 ^ 8) := Nat.and_mod_two_pow
  have h2 : ((a + 256 * A) &&& (c + 256 * C)) / 2 ^ 8 = ((a + 256 * A) / 2 ^ 8) &&& ((c + 256 * C) / 2 ^ 8) := Nat.and_div_two_pow
  rw [show (a + 256 * A) % 2 ^ 8 = a by omega, show (c + 256 * C) % 2 ^ 8 = c by omega] at h1
  rw [show (a + 256 * A) / 2 ^ 8 = A by omega, show (c + 256 * C) / 2 ^ 8 = C by omega] at h2
  omega
theorem pval_and {k : Nat} : ∀ {b m : Nat → Nat}, (∀ i, i < k → b i < 256) → (∀ i, i < k → m i < 256) → pval b k &&& pval m k = pval (fun i => b i &&& m i) k := by
  induction k with
  | zero => intro b m _ _; exact Nat.zero_and _
  | succ k ih =>
    intro b m hb hm
    unfold pval
    rw [pand1 (hb 0 (by omega)) (hm 0 (by omega)), ih (fun i hi => hb (i + 1) (by omega)) (fun i hi => hm (i + 1) (by omega))]
theorem pval_add {k : Nat} : ∀ {b c : Nat → Nat}, pval b k + pval c k = pval (fun i => b i + c i) k := by
  induction k with
  | zero => intro b c; rfl
  | succ k ih => intro b c; unfold pval; rw [← ih]; omega
theorem pval_sub {k : Nat} : ∀ {b c : Nat → Nat}, (∀ i, i < k → c i ≤ b i) → pval b k - pval c k = pval (fun i => b i - c i) k ∧ pval c k ≤ pval b k := by
  induction k with
  | zero => intro b c _; exact ⟨rfl, Nat.le_refl _⟩
  | succ k ih =>
    intro b c h
    have h0 := h 0 (by omega)
    obtain ⟨h1, h2⟩ := ih (b := fun i => b (i + 1)) (c := fun i => c (i + 1)) (fun i hi => h (i + 1) (by omega))
    unfold pval
    rw [← h1]
    omega
/-- a division by 2 ^ s, byte by byte -/
theorem pval_div {k d e : Nat} (hd : 0 < d) (he : d * e = 256) : ∀ {b : Nat → Nat}, b k = 0 → pval b k / d = pval (fun i => b i / d + e * (b (i + 1) % d)) k := by
  induction k with
  | zero => intro b _; exact Nat.zero_div d
  | succ k ih =>
    intro b hb
    unfold pval
    rw [← ih (b := fun i => b (i + 1)) hb]
    have h1 : (b 0 + 256 * pval (fun i => b (i + 1)) k) / d = b 0 / d + e * pval (fun i => b (i + 1)) k := by
      rw [← he, Nat.mul_assoc, Nat.add_mul_div_left _ _ hd]
    rw [h1]
    have h2 : pval (fun i => b (i + 1)) k % d = b 1 % d := by
      cases k with
      | zero => show 0 % d = b 1 % d; rw [hb]
      | succ k =>
        unfold pval
        show (b 1 + 256 * _) % d = b 1 % d
        rw [← he, Nat.mul_assoc, Nat.add_mul_mod_self_left]
    have h3 := Nat.div_add_mod (pval (fun i => b (i + 1)) k) d
    rw [h2] at h3
    have h4 : e * pval (fun i => b (i + 1)) k = e * (b 1 % d) + 256 * (pval (fun i => b (i + 1)) k / d) := by
      calc e * pval (fun i => b (i + 1)) k = e * (d * (pval (fun i => b (i + 1)) k / d) + b 1 % d) := by rw [h3]
        _ = e * (b 1 % d) + 256 * (pval (fun i => b (i + 1)) k / d) := by rw [Nat.mul_add, ← Nat.mul_assoc, Nat.mul_comm e d, he, Nat.add_comm]
    rw [h4, show (0 + 1 : Nat) = 1 from rfl]
    omega
theorem pval_n (n : Nat) : ∀ k, pval (fun i => n / 256 ^ i % 256) k = n % 256 ^ k := by
  intro k
  induction k generalizing n with
  | zero => show 0 = n % 1; omega
  | succ k ih =>
    unfold pval
    have h : (fun i => n / 256 ^ (i + 1) % 256) = fun i => n / 256 / 256 ^ i % 256 := by
      funext i
      rw [Nat.pow_succ, Nat.mul_comm, ← Nat.div_div_eq_div_mul]
    rw [h, ih (n / 256), Nat.pow_zero, Nat.div_one, Nat.pow_succ, Nat.mul_comm (256 ^ k) 256, Nat.mod_mul]
def pc1 (b : Nat) : Nat := b - ((b / 2) &&& 85)
def pc2 (b : Nat) : Nat := (b &&& 51) + ((b / 4) &&& 51)
def pcB (b : Nat) : Nat := (b.testBit 0).toNat + (b.testBit 1).toNat + (b.testBit 2).toNat + (b.testBit 3).toNat + (b.testBit 4).toNat + (b.testBit 5).toNat + (b.testBit 6).toNat + (b.testBit 7).toNat
theorem pc_all : ∀ b, b < 256 → pc1 b < 256 ∧ ((b / 2) &&& 85) ≤ b ∧ pc2 (pc1 b) ≤ 68 ∧ (pc2 (pc1 b) + pc2 (pc1 b) / 16) % 16 = pcB b ∧ pcB b ≤ 8 ∧ pc2 (pc1 b) % 16 ≤ 4 ∧ (b / 2 + 128 * 0) &&& 85 = (b / 2) &&& 85 ∧ (b / 2 + 128 * 1) &&& 85 = (b / 2) &&& 85 := by decide +kernel
theorem pc_sh4 : ∀ b, b < 256 → ∀ t, t < 4 → (b / 4 + 64 * t) &&& 51 = (b / 4) &&& 51 := by decide +kernel
theorem pc_a15 (b t : Nat) : (b + 16 * t) &&& 15 = b % 16 := by
  rw [show (15 : Nat) = 2 ^ 4 - 1 by decide, Nat.and_two_pow_sub_one_eq_mod]
  omega
theorem pm1 : pval (fun _ => 85) 8 = 6148914691236517205 := by decide +kernel
theorem pm2 : pval (fun _ => 51) 8 = 3689348814741910323 := by decide +kernel
theorem pm3 : pval (fun _ => 15) 8 = 1085102592571150095 := by decide +kernel
/-- bytes, with nothing beyond the eighth -/
def pby (n : Nat) (i : Nat) : Nat := n / 256 ^ i % 256
theorem pby_lt (n i : Nat) : pby n i < 256 := Nat.mod_lt _ (by decide)
theorem pby_val {n : Nat} (h : n < 2 ^ 64) : pval (pby n) 8 = n := by
  have := pval_n n 8
  rw [Nat.mod_eq_of_lt (by rw [show 256 ^ 8 = 2 ^ 64 by decide]; exact h)] at this
  exact this
theorem pby_8 {n : Nat} (h : n < 2 ^ 64) : pby n 8 = 0 := by
  unfold pby
  rw [Nat.div_eq_of_lt (by rw [show 256 ^ 8 = 2 ^ 64 by decide]; exact h)]
theorem pst1 {n : Nat} (h : n < 2 ^ 64) : n - ((n / 2) &&& 6148914691236517205) = pval (fun i => pc1 (pby n i)) 8 ∧ ((n / 2) &&& 6148914691236517205) ≤ n := by
  have h1 : n / 2 = pval (fun i => pby n i / 2 + 128 * (pby n (i + 1) % 2)) 8 := by
    have := pval_div (k := 8) (d := 2) (e := 128) (by decide) (by decide) (pby_8 h)
    rw [pby_val h] at this
    exact this
  have h2 : (n / 2) &&& 6148914691236517205 = pval (fun i => (pby n i / 2) &&& 85) 8 := by
    rw [h1, ← pm1, pval_and (fun i _ => by have := pby_lt n i; omega) (fun _ _ => by decide)]
    refine pval_congr (fun i _ => ?_)
    have ha := pc_all (pby n i) (pby_lt n i)
    rcases (show pby n (i + 1) % 2 = 0 ∨ pby n (i + 1) % 2 = 1 by omega) with e | e
    · show (pby n i / 2 + 128 * (pby n (i + 1) % 2)) &&& 85 = _
      rw [e]; exact ha.2.2.2.2.2.2.1
    · show (pby n i / 2 + 128 * (pby n (i + 1) % 2)) &&& 85 = _
      rw [e]; exact ha.2.2.2.2.2.2.2
  obtain ⟨h3, h4⟩ := pval_sub (k := 8) (b := pby n) (c := fun i => (pby n i / 2) &&& 85) (fun i _ => (pc_all (pby n i) (pby_lt n i)).2.1)
  rw [pby_val h, ← h2] at h3 h4
  exact ⟨h3, h4⟩
theorem pst2 {b : Nat → Nat} (hb : ∀ i, b i < 256) (h8 : b 8 = 0) : (pval b 8 &&& 3689348814741910323) + ((pval b 8 / 4) &&& 3689348814741910323) = pval (fun i => pc2 (b i)) 8 := by
  have h1 : pval b 8 / 4 = pval (fun i => b i / 4 + 64 * (b (i + 1) % 4)) 8 := pval_div (k := 8) (d := 4) (e := 64) (by decide) (by decide) h8
  rw [h1, ← pm2, pval_and (fun i _ => hb i) (fun _ _ => by decide), pval_and (fun i _ => by have := hb i; omega) (fun _ _ => by decide), pval_add]
  refine pval_congr (fun i _ => ?_)
  show (b i &&& 51) + ((b i / 4 + 64 * (b (i + 1) % 4)) &&& 51) = pc2 (b i)
  rw [pc_sh4 (b i) (hb i) _ (Nat.mod_lt _ (by decide))]
  rfl
theorem pst3 {b : Nat → Nat} (hb : ∀ i, b i ≤ 68) (hb' : ∀ i, b i % 16 ≤ 4) (h8 : b 8 = 0) : (pval b 8 + pval b 8 / 16) &&& 1085102592571150095 = pval (fun i => (b i + b i / 16) % 16) 8 := by
  have h1 : pval b 8 / 16 = pval (fun i => b i / 16 + 16 * (b (i + 1) % 16)) 8 := pval_div (k := 8) (d := 16) (e := 16) (by decide) (by decide) h8
  rw [h1, ← pm3, pval_add, pval_and (fun i _ => by have := hb i; have := hb' (i + 1); omega) (fun _ _ => by decide)]
  refine pval_congr (fun i _ => ?_)
  show (b i + (b i / 16 + 16 * (b (i + 1) % 16))) &&& 15 = _
  rw [← Nat.add_assoc, pc_a15]
theorem pst4 {c : Nat → Nat} (hc : ∀ i, c i ≤ 8) : (let v := pval c 8; let v4 := v + v / 256; let v5 := v4 + v4 / 65536; (v5 + v5 / 4294967296) % 128) = c 0 + c 1 + c 2 + c 3 + c 4 + c 5 + c 6 + c 7 := by
  have e : pval c 8 = c 0 + 256 * (c 1 + 256 * (c 2 + 256 * (c 3 + 256 * (c 4 + 256 * (c 5 + 256 * (c 6 + 256 * (c 7 + 256 * 0))))))) := rfl
  have h0 := hc 0; have h1 := hc 1; have h2 := hc 2; have h3 := hc 3; have h4 := hc 4; have h5 := hc 5; have h6 := hc 6; have h7 := hc 7
  dsimp only
  rw [e]
  generalize c 0 = a0 at *
  generalize c 1 = a1 at *
  generalize c 2 = a2 at *
  generalize c 3 = a3 at *
  generalize c 4 = a4 at *
  generalize c 5 = a5 at *
  generalize c 6 = a6 at *
  generalize c 7 = a7 at *
  obtain ⟨w7, e7⟩ : ∃ w, w = a7 + 256 * 0 := ⟨_, rfl⟩
  rw [← e7]
  obtain ⟨w6, e6⟩ : ∃ w, w = a6 + 256 * w7 := ⟨_, rfl⟩
  rw [← e6]
  obtain ⟨w5, e5⟩ : ∃ w, w = a5 + 256 * w6 := ⟨_, rfl⟩
  rw [← e5]
  obtain ⟨w4, e4⟩ : ∃ w, w = a4 + 256 * w5 := ⟨_, rfl⟩
  rw [← e4]
  obtain ⟨w3, e3⟩ : ∃ w, w = a3 + 256 * w4 := ⟨_, rfl⟩
  rw [← e3]
  obtain ⟨w2, e2⟩ : ∃ w, w = a2 + 256 * w3 := ⟨_, rfl⟩
  rw [← e2]
  obtain ⟨w1, e1⟩ : ∃ w, w = a1 + 256 * w2 := ⟨_, rfl⟩
  rw [← e1]
  have q1 : (a0 + 256 * w1) / 256 = w1 := by omega
  rw [q1]
  have q2 : (a0 + 256 * w1 + w1) / 65536 = w2 + w3 := by omega
  rw [q2]
  have q3 : (a0 + 256 * w1 + w1 + (w2 + w3)) / 4294967296 = w4 + w5 + w6 + w7 := by omega
  rw [q3]
  omega
theorem tb_nat {n : Nat} (h : n < 2 ^ 64) (i : Nat) : tb (lN n) i = n.testBit i := by
  unfold tb
  show (BitVec.ofNat 64 n).getLsbD i = _
  rw [BitVec.getLsbD_ofNat]
  by_cases hi : i < 64
  · simp [hi]
  · simp only [hi, decide_false, Bool.false_and]
    symm
    exact Nat.testBit_lt_two_pow (Nat.lt_of_lt_of_le h (Nat.pow_le_pow_right (by decide) (by omega)))
theorem pby_bit {n k j : Nat} (hj : j < 8) : (pby n k).testBit j = n.testBit (8 * k + j) := by
  unfold pby
  rw [show (256 : Nat) = 2 ^ 8 by decide, Nat.testBit_mod_two_pow, ← Nat.pow_mul, Nat.testBit_div_two_pow]
  simp [hj, Nat.add_comm]
theorem cnt_byte {n : Nat} (h : n < 2 ^ 64) (k : Nat) : cntN (lN n) (8 * k + 8) = cntN (lN n) (8 * k) + pcB (pby n k) := by
  have e : ∀ j, j < 8 → (if tb (lN n) (8 * k + j) = true then 1 else 0) = ((pby n k).testBit j).toNat := by
    intro j hj
    rw [tb_nat h, pby_bit hj]
    cases n.testBit (8 * k + j) <;> rfl
  have e0 := e 0 (by decide); have e1 := e 1 (by decide); have e2 := e 2 (by decide); have e3 := e 3 (by decide)
  have e4 := e 4 (by decide); have e5 := e 5 (by decide); have e6 := e 6 (by decide); have e7 := e 7 (by decide)
  show cntN (lN n) (8 * k + 7) + (if tb (lN n) (8 * k + 7) = true then 1 else 0) = _
  rw [show cntN (lN n) (8 * k + 7) = cntN (lN n) (8 * k + 6) + _ from rfl, show cntN (lN n) (8 * k + 6) = cntN (lN n) (8 * k + 5) + _ from rfl, show cntN (lN n) (8 * k + 5) = cntN (lN n) (8 * k + 4) + _ from rfl, show cntN (lN n) (8 * k + 4) = cntN (lN n) (8 * k + 3) + _ from rfl, show cntN (lN n) (8 * k + 3) = cntN (lN n) (8 * k + 2) + _ from rfl, show cntN (lN n) (8 * k + 2) = cntN (lN n) (8 * k + 1) + _ from rfl, show cntN (lN n) (8 * k + 1) = cntN (lN n) (8 * k) + _ from rfl]
  rw [e7, e6, e5, e4, e3, e2, e1, show (if tb (lN n) (8 * k) = true then 1 else 0) = ((pby n k).testBit 0).toNat from e0]
  unfold pcB
  omega
theorem cnt_bytes {n : Nat} (h : n < 2 ^ 64) : cnt (lN n) = pcB (pby n 0) + pcB (pby n 1) + pcB (pby n 2) + pcB (pby n 3) + pcB (pby n 4) + pcB (pby n 5) + pcB (pby n 6) + pcB (pby n 7) := by
  have e0 := cnt_byte h 0; have e1 := cnt_byte h 1; have e2 := cnt_byte h 2; have e3 := cnt_byte h 3
  have e4 := cnt_byte h 4; have e5 := cnt_byte h 5; have e6 := cnt_byte h 6; have e7 := cnt_byte h 7
  have z : cntN (lN n) (8 * 0) = 0 := rfl
  unfold cnt
  show cntN (lN n) (8 * 7 + 8) = _
  rw [e7, show 8 * 7 = 8 * 6 + 8 by decide, e6, show 8 * 6 = 8 * 5 + 8 by decide, e5, show 8 * 5 = 8 * 4 + 8 by decide, e4, show 8 * 4 = 8 * 3 + 8 by decide, e3, show 8 * 3 = 8 * 2 + 8 by decide, e2, show 8 * 2 = 8 * 1 + 8 by decide, e1, show 8 * 1 = 8 * 0 + 8 by decide, e0, z]
  omega
theorem lN_and {a b : Nat} (ha : a < 2 ^ 64) (hb : b < 2 ^ 64) : lN a &&& lN b = lN (a &&& b) := tb_ext fun i hi => by
  rw [tb_and, tb_nat ha, tb_nat hb, tb_nat (Nat.and_lt_two_pow a hb), Nat.testBit_and]
theorem lN_ush {n k : Nat} (hn : n < 2 ^ 64) (hk : k < 64) : ((lN n).toUInt64 >>> ((nI k).toInt64.toUInt64 &&& Int64.toUInt64 63)).toInt64 = lN (n / 2 ^ k) := tb_ext fun i hi => by
  rw [tb_ush hk, tb_nat hn, tb_nat (Nat.lt_of_le_of_lt (Nat.div_le_self _ _) hn), Nat.testBit_div_two_pow, Nat.add_comm]
theorem lN_ofx (x : Int64) : ∃ n, n < 2 ^ 64 ∧ x = lN n := ⟨x.toBitVec.toNat, x.toBitVec.isLt, Int64.toBitVec_inj.mp (by show _ = BitVec.ofNat 64 _; simp)⟩
theorem JL_bitCount_spec {x : Int64} {post : Int32 → Prop} (h : post (nI (cnt x))) : JL_bitCount x post := by
  obtain ⟨n, hn, rfl⟩ := lN_ofx x
  intro x1 e1 x2 e2 x3 e3 x4 e4 x5 e5 x6 e6
  have c1 : ∀ i, pc1 (pby n i) < 256 := fun i => (pc_all _ (pby_lt n i)).1
  have c2 : ∀ i, pc2 (pc1 (pby n i)) ≤ 68 := fun i => (pc_all _ (pby_lt n i)).2.2.1
  have c3 : ∀ i, (pc2 (pc1 (pby n i)) + pc2 (pc1 (pby n i)) / 16) % 16 = pcB (pby n i) := fun i => (pc_all _ (pby_lt n i)).2.2.2.1
  have c4 : ∀ i, pcB (pby n i) ≤ 8 := fun i => (pc_all _ (pby_lt n i)).2.2.2.2.1
  have z1 : pc1 (pby n 8) = 0 := by rw [pby_8 hn]; rfl
  have z2 : pc2 (pc1 (pby n 8)) = 0 := by rw [z1]; rfl
  obtain ⟨s1, s1'⟩ := pst1 hn
  have b1 : pval (fun i => pc1 (pby n i)) 8 < 2 ^ 64 := by
    have := pval_lt (k := 8) (b := fun i => pc1 (pby n i)) (fun i _ => c1 i)
    rw [show 256 ^ 8 = 2 ^ 64 by decide] at this; exact this
  have E1 : x1 = lN (pval (fun i => pc1 (pby n i)) 8) := by
    rw [e1, show (1 : Int32) = nI 1 from rfl, lN_ush hn (by decide), show (6148914691236517205 : Int64) = lN 6148914691236517205 from rfl, lN_and (Nat.lt_of_le_of_lt (Nat.div_le_self _ _) hn) (by decide), show 2 ^ 1 = 2 from rfl, lN_sub s1', s1]
  have s2 := pst2 (b := fun i => pc1 (pby n i)) c1 z1
  have b2 : pval (fun i => pc2 (pc1 (pby n i))) 8 < 2 ^ 64 := by
    have := pval_lt (k := 8) (b := fun i => pc2 (pc1 (pby n i))) (fun i _ => by have := c2 i; omega)
    rw [show 256 ^ 8 = 2 ^ 64 by decide] at this; exact this
  have E2 : x2 = lN (pval (fun i => pc2 (pc1 (pby n i))) 8) := by
    rw [e2, E1, show (2 : Int32) = nI 2 from rfl, lN_ush b1 (by decide), show (3689348814741910323 : Int64) = lN 3689348814741910323 from rfl, lN_and b1 (by decide), lN_and (Nat.lt_of_le_of_lt (Nat.div_le_self _ _) b1) (by decide), lN_add, show 2 ^ 2 = 4 from rfl, s2]
  have s3 := pst3 (b := fun i => pc2 (pc1 (pby n i))) c2 (fun i => (pc_all _ (pby_lt n i)).2.2.2.2.2.1) z2
  have hh : pval (fun i => pc2 (pc1 (pby n i))) 8 + pval (fun i => pc2 (pc1 (pby n i))) 8 / 16 < 2 ^ 64 := by
    have h1 : pval (fun i => pc2 (pc1 (pby n i))) 8 ≤ pval (fun _ => 68) 8 := (pval_sub (k := 8) (b := fun _ => 68) (c := fun i => pc2 (pc1 (pby n i))) (fun i _ => c2 i)).2
    have h2 : pval (fun _ => 68) 8 = 4919131752989213764 := by decide +kernel
    rw [h2] at h1
    generalize pval (fun i => pc2 (pc1 (pby n i))) 8 = W at h1
    omega
  have E3 : x3 = lN (pval (fun i => pcB (pby n i)) 8) := by
    rw [e3, E2, show (4 : Int32) = nI 4 from rfl, lN_ush b2 (by decide), lN_add, show (1085102592571150095 : Int64) = lN 1085102592571150095 from rfl, show 2 ^ 4 = 16 from rfl, lN_and hh (by decide), s3]
    exact congrArg lN (pval_congr (fun i _ => c3 i))
  have hv : pval (fun i => pcB (pby n i)) 8 ≤ 578721382704613384 := by
    have h1 : pval (fun i => pcB (pby n i)) 8 ≤ pval (fun _ => 8) 8 := (pval_sub (k := 8) (b := fun _ => 8) (c := fun i => pcB (pby n i)) (fun i _ => c4 i)).2
    have h2 : pval (fun _ => 8) 8 = 578721382704613384 := by decide +kernel
    exact Nat.le_trans h1 (Nat.le_of_eq h2)
  have s4 := pst4 (c := fun i => pcB (pby n i)) c4
  suffices hq : ∀ V, x3 = lN V → V ≤ 578721382704613384 → (V + V / 256 + (V + V / 256) / 65536 + (V + V / 256 + (V + V / 256) / 65536) / 4294967296) % 128 = cnt (lN n) → post (x6.toInt32 &&& 127) from
    hq _ E3 hv (s4.trans (cnt_bytes hn).symm)
  clear E3 hv s4
  intro V E3 hv s4
  have E4 : x4 = lN (V + V / 256) := by
    rw [e4, E3, show (8 : Int32) = nI 8 from rfl, lN_ush (by omega) (by decide), lN_add]
  have E5 : x5 = lN (V + V / 256 + (V + V / 256) / 65536) := by
    rw [e5, E4, show (16 : Int32) = nI 16 from rfl, lN_ush (by omega) (by decide), lN_add]
  have E6 : x6 = lN (V + V / 256 + (V + V / 256) / 65536 + (V + V / 256 + (V + V / 256) / 65536) / 4294967296) := by
    rw [e6, E5, show (32 : Int32) = nI 32 from rfl, lN_ush (by omega) (by decide), lN_add]
  rw [E6, lN_i, show (127 : Int32) = nI 127 from rfl]
  have key : ∀ z : Nat, nI z &&& nI 127 = nI (z % 128) := fun z => by
    have h1 := pk_and (nI z) (m := nI 127) 7 (by decide)
    rw [h1]
    refine congrArg nI ?_
    show (BitVec.ofNat 32 z).toNat % 2 ^ 7 = z % 128
    rw [BitVec.toNat_ofNat]
    omega
  rw [key, s4]
  exact h
