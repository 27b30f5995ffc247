/-! ===== how many bits a small set has ===== -/
theorem land16 {a c : Nat} (b d : Nat) (ha : a < 16) (hc : c < 16) : (a + 16 * b) &&& (c + 16 * d) = (a &&& c) + 16 * (b &&& d) := by
  have e : ∀ a b : Nat, a + 16 * b = 2 ^ 4 * b + a := fun a b => by omega
  rw [e a b, e c d, e (a &&& c) (b &&& d)]
  have hac : a &&& c < 2 ^ 4 := Nat.lt_of_le_of_lt Nat.and_le_left ha
  apply Nat.eq_of_testBit_eq
  intro i
  rw [Nat.testBit_and, Nat.testBit_two_pow_mul_add _ ha, Nat.testBit_two_pow_mul_add _ hc, Nat.testBit_two_pow_mul_add _ hac]
  split
  · rw [Nat.testBit_and]
  · rw [Nat.testBit_and]
def v5 (a b c d e : Nat) : Nat := a + 16 * (b + 16 * (c + 16 * (d + 16 * e)))
theorem land5 {a b c d e : Nat} (m0 m1 m2 m3 m4 r M : Nat) (ha : a < 16) (hb : b < 16) (hc : c < 16) (hd : d < 16) (he : e < 16) (h0 : m0 < 16) (h1 : m1 < 16) (h2 : m2 < 16) (h3 : m3 < 16) (h4 : m4 < 16) (hM : M = m0 + 16 * (m1 + 16 * (m2 + 16 * (m3 + 16 * (m4 + 16 * r))))) : v5 a b c d e &&& M = v5 (a &&& m0) (b &&& m1) (c &&& m2) (d &&& m3) (e &&& m4) := by
  subst hM
  have z : e = e + 16 * 0 := rfl
  unfold v5
  rw [land16 _ _ ha h0, land16 _ _ hb h1, land16 _ _ hc h2, land16 _ _ hd h3]
  have := land16 (a := e) (c := m4) 0 r he h4
  rw [Nat.zero_and] at this
  rw [show e &&& (m4 + 16 * r) = e &&& m4 from this]
def p4n (n : Nat) : Nat := n - (n / 2 &&& 5)
def c4n (n : Nat) : Nat := n % 2 + n / 2 % 2 + n / 4 % 2 + n / 8 % 2
theorem p4n_1 : ∀ n, n < 16 → ∀ b, b < 2 → ((n / 2 + 8 * b) &&& 5) + p4n n = n ∧ p4n n < 16 := by decide +kernel
theorem p4n_2 : ∀ n, n < 16 → ∀ b, b < 4 → (p4n n &&& 3) + ((p4n n / 4 + 4 * b) &&& 3) = c4n n ∧ c4n n ≤ 4 := by decide +kernel
theorem and15 : ∀ n, n < 16 → n &&& 15 = n := by decide +kernel
def st1 (N : Nat) : Nat := N - ((N / 2 ^ 1) &&& 1431655765)
def st2 (N : Nat) : Nat := (N &&& 858993459) + ((N / 2 ^ 2) &&& 858993459)
def st3 (N : Nat) : Nat := (N + N / 2 ^ 4) &&& 252645135
def st4 (N : Nat) : Nat := N + N / 2 ^ 8
def st5 (N : Nat) : Nat := N + N / 2 ^ 16
theorem st1_5 {a b c d e : Nat} (ha : a < 16) (hb : b < 16) (hc : c < 16) (hd : d < 16) (he : e < 16) : st1 (v5 a b c d e) = v5 (p4n a) (p4n b) (p4n c) (p4n d) (p4n e) := by
  have e1 : v5 a b c d e / 2 ^ 1 = v5 (a / 2 + 8 * (b % 2)) (b / 2 + 8 * (c % 2)) (c / 2 + 8 * (d % 2)) (d / 2 + 8 * (e % 2)) (e / 2 + 8 * 0) := by unfold v5; omega
  have A := p4n_1 a ha (b % 2) (by omega)
  have B := p4n_1 b hb (c % 2) (by omega)
  have C := p4n_1 c hc (d % 2) (by omega)
  have D := p4n_1 d hd (e % 2) (by omega)
  have E := p4n_1 e he 0 (by omega)
  unfold st1
  rw [e1, land5 5 5 5 5 5 1365 1431655765 (by omega) (by omega) (by omega) (by omega) (by omega) (by omega) (by omega) (by omega) (by omega) (by omega) (by omega)]
  unfold v5
  omega
theorem st2_5 {a b c d e : Nat} (ha : a < 16) (hb : b < 16) (hc : c < 16) (hd : d < 16) (he : e < 16) : st2 (v5 (p4n a) (p4n b) (p4n c) (p4n d) (p4n e)) = v5 (c4n a) (c4n b) (c4n c) (c4n d) (c4n e) := by
  have pa := (p4n_1 a ha 0 (by omega)).2
  have pb := (p4n_1 b hb 0 (by omega)).2
  have pc := (p4n_1 c hc 0 (by omega)).2
  have pd := (p4n_1 d hd 0 (by omega)).2
  have pe := (p4n_1 e he 0 (by omega)).2
  have A := p4n_2 a ha (p4n b % 4) (by omega)
  have B := p4n_2 b hb (p4n c % 4) (by omega)
  have C := p4n_2 c hc (p4n d % 4) (by omega)
  have D := p4n_2 d hd (p4n e % 4) (by omega)
  have E := p4n_2 e he 0 (by omega)
  have e1 : v5 (p4n a) (p4n b) (p4n c) (p4n d) (p4n e) / 2 ^ 2 = v5 (p4n a / 4 + 4 * (p4n b % 4)) (p4n b / 4 + 4 * (p4n c % 4)) (p4n c / 4 + 4 * (p4n d % 4)) (p4n d / 4 + 4 * (p4n e % 4)) (p4n e / 4 + 4 * 0) := by unfold v5; omega
  unfold st2
  rw [e1, land5 3 3 3 3 3 819 858993459 pa pb pc pd pe (by omega) (by omega) (by omega) (by omega) (by omega) (by omega), land5 3 3 3 3 3 819 858993459 (by omega) (by omega) (by omega) (by omega) (by omega) (by omega) (by omega) (by omega) (by omega) (by omega) (by omega)]
  unfold v5
  omega
theorem st3_5 {a b c d e : Nat} (ha : a ≤ 4) (hb : b ≤ 4) (hc : c ≤ 4) (hd : d ≤ 4) (he : e ≤ 4) : st3 (v5 a b c d e) = v5 (a + b) 0 (c + d) 0 e := by
  have e1 : v5 a b c d e + v5 a b c d e / 2 ^ 4 = v5 (a + b) (b + c) (c + d) (d + e) e := by unfold v5; omega
  unfold st3
  rw [e1, land5 15 0 15 0 15 240 252645135 (by omega) (by omega) (by omega) (by omega) (by omega) (by omega) (by omega) (by omega) (by omega) (by omega) (by omega), and15 _ (by omega), and15 _ (by omega), and15 _ (by omega), Nat.and_zero, Nat.and_zero]
theorem st45 {a c e : Nat} (ha : a ≤ 8) (hc : c ≤ 8) (he : e ≤ 4) : st5 (st4 (v5 a 0 c 0 e)) % 2 ^ 6 = a + c + e := by
  have e4 : st4 (v5 a 0 c 0 e) = (a + c) + 256 * (c + e) + 65536 * e := by
    have : v5 a 0 c 0 e / 2 ^ 8 = c + 256 * e := by unfold v5; omega
    unfold st4; rw [this]; unfold v5; omega
  have e5 : st5 (st4 (v5 a 0 c 0 e)) = (a + c + e) + 64 * (4 * (c + e) + 1024 * e) := by
    have : st4 (v5 a 0 c 0 e) / 2 ^ 16 = e := by rw [e4]; omega
    unfold st5; rw [this, e4]; omega
  rw [e5]
  omega
theorem v5_st {a b c d e : Nat} (ha : a < 16) (hb : b < 16) (hc : c < 16) (hd : d < 16) (he : e < 16) : st5 (st4 (st3 (st2 (st1 (v5 a b c d e))))) % 2 ^ 6 = c4n a + c4n b + c4n c + c4n d + c4n e := by
  have A := (p4n_2 a ha 0 (by omega)).2
  have B := (p4n_2 b hb 0 (by omega)).2
  have C := (p4n_2 c hc 0 (by omega)).2
  have D := (p4n_2 d hd 0 (by omega)).2
  have E := (p4n_2 e he 0 (by omega)).2
  rw [st1_5 ha hb hc hd he, st2_5 ha hb hc hd he, st3_5 A B C D E, st45 (by omega) (by omega) E]
  omega
theorem nI_and {a b : Nat} (ha : a < 2 ^ 32) (hb : b < 2 ^ 32) : nI a &&& nI b = nI (a &&& b) := by
  apply Int32.toBitVec_inj.mp
  apply BitVec.eq_of_toNat_eq
  rw [Int32.toBitVec_and, BitVec.toNat_and, pk_tn ha, pk_tn hb, pk_tn (Nat.lt_of_le_of_lt Nat.and_le_left ha)]
theorem nI_or {a b : Nat} (ha : a < 2 ^ 32) (hb : b < 2 ^ 32) : nI a ||| nI b = nI (a ||| b) := by
  apply Int32.toBitVec_inj.mp
  apply BitVec.eq_of_toNat_eq
  rw [Int32.toBitVec_or, BitVec.toNat_or, pk_tn ha, pk_tn hb, pk_tn (Nat.or_lt_two_pow ha hb)]
def pc1 (p : Int32) : Int32 := p - ((p.toUInt32 >>> ((1 : Int32).toUInt32 &&& Int32.toUInt32 31)).toInt32 &&& 1431655765)
def pc2 (p : Int32) : Int32 := (p &&& 858993459) + ((p.toUInt32 >>> ((2 : Int32).toUInt32 &&& Int32.toUInt32 31)).toInt32 &&& 858993459)
def pc3 (p : Int32) : Int32 := (p + (p.toUInt32 >>> ((4 : Int32).toUInt32 &&& Int32.toUInt32 31)).toInt32) &&& 252645135
def pc4 (p : Int32) : Int32 := p + (p.toUInt32 >>> ((8 : Int32).toUInt32 &&& Int32.toUInt32 31)).toInt32
def pc5 (p : Int32) : Int32 := p + (p.toUInt32 >>> ((16 : Int32).toUInt32 &&& Int32.toUInt32 31)).toInt32
theorem pcnt_def (p : Int32) : pcnt p = pc5 (pc4 (pc3 (pc2 (pc1 p)))) &&& 63 := rfl
theorem pc1_n {N : Nat} (h : N < 2 ^ 32) : pc1 (nI N) = nI (st1 N) := by
  unfold pc1 st1
  have h2 : (N / 2 ^ 1) &&& 1431655765 ≤ N / 2 ^ 1 := Nat.and_le_left
  rw [pk_ushrN h 1 1 (by decide +kernel), show (1431655765 : Int32) = nI 1431655765 from rfl, nI_and (by omega) (by omega), nI_sub (by omega)]
theorem pc2_n {N : Nat} (h : N < 2 ^ 32) : pc2 (nI N) = nI (st2 N) := by
  unfold pc2 st2
  rw [pk_ushrN h 2 2 (by decide +kernel), show (858993459 : Int32) = nI 858993459 from rfl, nI_and (by omega) (by omega), nI_and (by omega) (by omega), nI_add]
theorem pc3_n {N : Nat} (h : N < 2 ^ 31) : pc3 (nI N) = nI (st3 N) := by
  unfold pc3 st3
  rw [pk_ushrN (by omega) 4 4 (by decide +kernel), show (252645135 : Int32) = nI 252645135 from rfl, nI_add, nI_and (by omega) (by omega)]
theorem pc4_n {N : Nat} (h : N < 2 ^ 32) : pc4 (nI N) = nI (st4 N) := by
  unfold pc4 st4
  rw [pk_ushrN h 8 8 (by decide +kernel), nI_add]
theorem pc5_n {N : Nat} (h : N < 2 ^ 32) : pc5 (nI N) = nI (st5 N) := by
  unfold pc5 st5
  rw [pk_ushrN h 16 16 (by decide +kernel), nI_add]
theorem pcnt_n {N : Nat} (h : N < 2 ^ 20) : pcnt (nI N) = nI (st5 (st4 (st3 (st2 (st1 N)))) % 2 ^ 6) := by
  have h1 : st1 N < 2 ^ 20 := by unfold st1; omega
  have h2 : st2 (st1 N) < 2 ^ 21 := by
    unfold st2
    have a : st1 N &&& 858993459 ≤ st1 N := Nat.and_le_left
    have b : (st1 N / 2 ^ 2) &&& 858993459 ≤ st1 N / 2 ^ 2 := Nat.and_le_left
    omega
  have h3 : st3 (st2 (st1 N)) < 2 ^ 22 := by
    unfold st3
    have a : (st2 (st1 N) + st2 (st1 N) / 2 ^ 4) &&& 252645135 ≤ st2 (st1 N) + st2 (st1 N) / 2 ^ 4 := Nat.and_le_left
    omega
  have h4 : st4 (st3 (st2 (st1 N))) < 2 ^ 23 := by unfold st4; omega
  have h5 : st5 (st4 (st3 (st2 (st1 N)))) < 2 ^ 24 := by unfold st5; omega
  rw [pcnt_def, pc1_n (by omega), pc2_n (by omega), pc3_n (by omega), pc4_n (by omega), pc5_n (by omega), pk_andN (by omega) 6 rfl]
/-- the number that a set's bits make -/
def bn (p : Nat → Bool) : Nat → Nat
  | 0 => 0
  | k + 1 => bn p k + (if p k then 1 else 0) * 2 ^ k
theorem bn_lt (p : Nat → Bool) : ∀ k, bn p k < 2 ^ k
  | 0 => (by decide : 0 < 2 ^ 0)
  | k + 1 => by
    have := bn_lt p k
    rw [bn, Nat.pow_succ]
    split <;> omega
theorem shl_n : ∀ k, k < 31 → (1 : Int32) <<< (nI k &&& 31) = nI (2 ^ k) := by decide +kernel
theorem bs_nI (p : Nat → Bool) : ∀ m, m ≤ 31 → bs p m = nI (bn p m)
  | 0, _ => rfl
  | k + 1, h => by
    have hb := bn_lt p k
    have h2 : 2 ^ k < 2 ^ 32 := Nat.pow_lt_pow_right (by omega) (by omega)
    rw [bs, bn, bs_nI p k (by omega)]
    by_cases hp : p k = true
    · rw [if_pos hp, if_pos hp, shl_n k (by omega), nI_or (by omega) h2, Nat.or_comm]
      have := Nat.two_pow_add_eq_or_of_lt hb 1
      rw [Nat.mul_one] at this
      rw [← this, Nat.one_mul, Nat.add_comm]
    · rw [if_neg hp, if_neg hp, or0, Nat.zero_mul, Nat.add_zero]
theorem bn20 (p : Nat → Bool) : bn p 20 = ((((((((((((((((((((0 + (if p 0 then 1 else 0) * 2 ^ 0) + (if p 1 then 1 else 0) * 2 ^ 1) + (if p 2 then 1 else 0) * 2 ^ 2) + (if p 3 then 1 else 0) * 2 ^ 3) + (if p 4 then 1 else 0) * 2 ^ 4) + (if p 5 then 1 else 0) * 2 ^ 5) + (if p 6 then 1 else 0) * 2 ^ 6) + (if p 7 then 1 else 0) * 2 ^ 7) + (if p 8 then 1 else 0) * 2 ^ 8) + (if p 9 then 1 else 0) * 2 ^ 9) + (if p 10 then 1 else 0) * 2 ^ 10) + (if p 11 then 1 else 0) * 2 ^ 11) + (if p 12 then 1 else 0) * 2 ^ 12) + (if p 13 then 1 else 0) * 2 ^ 13) + (if p 14 then 1 else 0) * 2 ^ 14) + (if p 15 then 1 else 0) * 2 ^ 15) + (if p 16 then 1 else 0) * 2 ^ 16) + (if p 17 then 1 else 0) * 2 ^ 17) + (if p 18 then 1 else 0) * 2 ^ 18) + (if p 19 then 1 else 0) * 2 ^ 19) := rfl
theorem ct20 (p : Nat → Bool) : fb_ct p 20 = ((((((((((((((((((((0 + (if p 0 then 1 else 0)) + (if p 1 then 1 else 0)) + (if p 2 then 1 else 0)) + (if p 3 then 1 else 0)) + (if p 4 then 1 else 0)) + (if p 5 then 1 else 0)) + (if p 6 then 1 else 0)) + (if p 7 then 1 else 0)) + (if p 8 then 1 else 0)) + (if p 9 then 1 else 0)) + (if p 10 then 1 else 0)) + (if p 11 then 1 else 0)) + (if p 12 then 1 else 0)) + (if p 13 then 1 else 0)) + (if p 14 then 1 else 0)) + (if p 15 then 1 else 0)) + (if p 16 then 1 else 0)) + (if p 17 then 1 else 0)) + (if p 18 then 1 else 0)) + (if p 19 then 1 else 0)) := rfl
theorem c4n_b : ∀ a, a < 2 → ∀ b, b < 2 → ∀ c, c < 2 → ∀ d, d < 2 → c4n (a + 2 * b + 4 * c + 8 * d) = a + b + c + d := by decide +kernel
theorem bit01 (b : Bool) : (if b then 1 else 0) < 2 := by cases b <;> decide
theorem pcnt_20 (p : Nat → Bool) : pcnt (bs p 20) = nI (fb_ct p 20) := by
  rw [bs_nI p 20 (by omega), pcnt_n (bn_lt p 20), bn20, ct20]
  have h0 := bit01 (p 0)
  have h1 := bit01 (p 1)
  have h2 := bit01 (p 2)
  have h3 := bit01 (p 3)
  have h4 := bit01 (p 4)
  have h5 := bit01 (p 5)
  have h6 := bit01 (p 6)
  have h7 := bit01 (p 7)
  have h8 := bit01 (p 8)
  have h9 := bit01 (p 9)
  have h10 := bit01 (p 10)
  have h11 := bit01 (p 11)
  have h12 := bit01 (p 12)
  have h13 := bit01 (p 13)
  have h14 := bit01 (p 14)
  have h15 := bit01 (p 15)
  have h16 := bit01 (p 16)
  have h17 := bit01 (p 17)
  have h18 := bit01 (p 18)
  have h19 := bit01 (p 19)
  generalize (if p 0 then 1 else 0) = b0 at h0 ⊢
  generalize (if p 1 then 1 else 0) = b1 at h1 ⊢
  generalize (if p 2 then 1 else 0) = b2 at h2 ⊢
  generalize (if p 3 then 1 else 0) = b3 at h3 ⊢
  generalize (if p 4 then 1 else 0) = b4 at h4 ⊢
  generalize (if p 5 then 1 else 0) = b5 at h5 ⊢
  generalize (if p 6 then 1 else 0) = b6 at h6 ⊢
  generalize (if p 7 then 1 else 0) = b7 at h7 ⊢
  generalize (if p 8 then 1 else 0) = b8 at h8 ⊢
  generalize (if p 9 then 1 else 0) = b9 at h9 ⊢
  generalize (if p 10 then 1 else 0) = b10 at h10 ⊢
  generalize (if p 11 then 1 else 0) = b11 at h11 ⊢
  generalize (if p 12 then 1 else 0) = b12 at h12 ⊢
  generalize (if p 13 then 1 else 0) = b13 at h13 ⊢
  generalize (if p 14 then 1 else 0) = b14 at h14 ⊢
  generalize (if p 15 then 1 else 0) = b15 at h15 ⊢
  generalize (if p 16 then 1 else 0) = b16 at h16 ⊢
  generalize (if p 17 then 1 else 0) = b17 at h17 ⊢
  generalize (if p 18 then 1 else 0) = b18 at h18 ⊢
  generalize (if p 19 then 1 else 0) = b19 at h19 ⊢
  rw [show ((((((((((((((((((((0 + b0 * 2 ^ 0) + b1 * 2 ^ 1) + b2 * 2 ^ 2) + b3 * 2 ^ 3) + b4 * 2 ^ 4) + b5 * 2 ^ 5) + b6 * 2 ^ 6) + b7 * 2 ^ 7) + b8 * 2 ^ 8) + b9 * 2 ^ 9) + b10 * 2 ^ 10) + b11 * 2 ^ 11) + b12 * 2 ^ 12) + b13 * 2 ^ 13) + b14 * 2 ^ 14) + b15 * 2 ^ 15) + b16 * 2 ^ 16) + b17 * 2 ^ 17) + b18 * 2 ^ 18) + b19 * 2 ^ 19) = v5 (b0 + 2 * b1 + 4 * b2 + 8 * b3) (b4 + 2 * b5 + 4 * b6 + 8 * b7) (b8 + 2 * b9 + 4 * b10 + 8 * b11) (b12 + 2 * b13 + 4 * b14 + 8 * b15) (b16 + 2 * b17 + 4 * b18 + 8 * b19) from by unfold v5; omega]
  rw [v5_st (by omega) (by omega) (by omega) (by omega) (by omega), c4n_b b0 h0 b1 h1 b2 h2 b3 h3, c4n_b b4 h4 b5 h5 b6 h6 b7 h7, c4n_b b8 h8 b9 h9 b10 h10 b11 h11, c4n_b b12 h12 b13 h13 b14 h14 b15 h15, c4n_b b16 h16 b17 h17 b18 h18 b19 h19]
  congr 1
  omega
theorem bs_cut (p : Nat → Bool) {m : Nat} (hm : m ≤ 20) : bs p m = bs (fun i => decide (i < m) && p i) 20 := by
  apply b_ext
  intro i hi
  rw [bt_bs _ m (by omega) i hi, bt_bs _ 20 (by omega) i hi]
  by_cases h : i < m
  · rw [decide_eq_true h, decide_eq_true (by omega)]; rfl
  · rw [decide_eq_false h]; simp
theorem ct_cut (p : Nat → Bool) {m : Nat} (hm : m ≤ 20) : fb_ct p m = fb_ct (fun i => decide (i < m) && p i) 20 := by
  obtain ⟨d, e⟩ := Nat.exists_eq_add_of_le hm
  rw [e, fb_ct_split]
  rw [show fb_ct (fun k => decide (m + k < m) && p (m + k)) d = 0 from fb_ct_zero.mpr (fun k _ => by rw [decide_eq_false (by omega)]; rfl), Nat.add_zero]
  exact fb_ct_cong (fun k hk => by rw [decide_eq_true hk]; rfl)
theorem pcnt_bs (p : Nat → Bool) {m : Nat} (hm : m ≤ 20) : pcnt (bs p m) = nI (fb_ct p m) := by
  rw [bs_cut p hm, ct_cut p hm, pcnt_20]
theorem bn_low (p : Nat → Bool) : ∀ k, bn p (k + 1) = (if p 0 then 1 else 0) + 2 * bn (fun i => p (i + 1)) k
  | 0 => by rw [bn, bn, bn]; omega
  | k + 1 => by
    rw [bn, bn_low p k, bn, Nat.pow_succ]
    rw [Nat.mul_add, ← Nat.mul_assoc, Nat.mul_comm _ 2, Nat.add_assoc]
theorem popF_0 : ∀ d, popF d 0 = 0
  | 0 => rfl
  | d + 1 => by rw [popF, Nat.zero_div, popF_0 d]
theorem popF_bn : ∀ (k d : Nat) (p : Nat → Bool), k ≤ d → popF d (bn p k) = fb_ct p k
  | 0, d, p, _ => popF_0 d
  | k + 1, 0, p, h => absurd h (by omega)
  | k + 1, d + 1, p, h => by
    have e : fb_ct p (k + 1) = (if p 0 then 1 else 0) + fb_ct (fun i => p (i + 1)) k := by
      have := fb_ct_split p 1 k
      rw [Nat.add_comm k 1, this, fb_ct_succ, fb_ct, Nat.zero_add]
      congr 1
      exact fb_ct_cong (fun i _ => by rw [Nat.add_comm])
    have hb := bit01 (p 0)
    rw [bn_low, popF, e, ← popF_bn k d (fun i => p (i + 1)) (by omega)]
    congr 1
    · omega
    · congr 1
      omega
theorem sz_bs (p : Nat → Bool) {m : Nat} (hm : m ≤ 20) : sz (bs p m) = nI (fb_ct p m) := by
  have hb := bn_lt p m
  have h2 : 2 ^ m ≤ 2 ^ 20 := Nat.pow_le_pow_right (by omega) hm
  have h31 : bn p m < 2 ^ 31 := by omega
  rw [bs_nI p m (by omega)]
  unfold sz
  rw [nI_clamp h31, popF_bn m 31 p (by omega)]
  by_cases h : nI (bn p m) ≤ 0
  · rw [if_pos h]
    have h0 : bn p m = 0 := by
      have := (le_nI (a := bn p m) (b := 0) h31 (by omega)).mp h
      omega
    have := popF_bn m 31 p (by omega)
    rw [h0, popF_0] at this
    rw [← this]; rfl
  · rw [if_neg h]
theorem pcnt_sz (p : Nat → Bool) {m : Nat} (hm : m ≤ 20) : pcnt (bs p m) = sz (bs p m) := by rw [pcnt_bs p hm, sz_bs p hm]
/-! ===== counts: log, hardest, many, score ===== -/
theorem any_kls {n t : Nat} {p : FF} {g : FF} (h : Agree n t p (sb g 3)) (ht : t ≤ 7) {q : Nat} (hq : q < 4 * n) : (List.range t).any (fun i => kt' p n i q) = decide (¬ kls g n t q = 0) := by
  rw [← kls_eq h hq]
  by_cases hz : bs (fun i => kt' p n i q) t = 0
  · rw [decide_eq_false (not_not_intro hz)]
    rw [bs_zero (by omega)] at hz
    rw [List.any_eq_false]
    intro x hx c
    have e : kt' p n x q = false := hz x (List.mem_range.mp hx)
    rw [e] at c
    exact absurd c (by decide)
  · rw [decide_eq_true hz, List.any_eq_true]
    have : ∃ i, i < t ∧ kt' p n i q = true := by
      apply Classical.byContradiction
      intro c
      refine hz ((bs_zero (by omega)).mpr (fun k hk => ?_))
      cases hb : kt' p n k q with
      | false => rfl
      | true => exact absurd ⟨k, hk, hb⟩ c
    obtain ⟨i, hi, e⟩ := this
    exact ⟨i, List.mem_range.mpr hi, e⟩
theorem kd_ct {n t : Nat} {p : FF} {g : FF} (h : Agree n t p (sb g 3)) (hn : n ≤ 5) (ht : t ≤ 7) : pcnt (bs (fun q => (List.range t).any (fun i => kt' p n i q)) (4 * n)) = nI (fb_ct (fun q => decide (¬ kls g n t q = 0)) (4 * n)) := by
  rw [pcnt_bs _ (by omega)]
  congr 1
  exact fb_ct_cong (fun q hq => any_kls h ht hq)
theorem anyK_cnt (f : FF) (n q : Nat) : ∀ k, anyK f n k q = decide (¬ cntK f n q k = 0)
  | 0 => by simp [anyK, cntK]
  | k + 1 => by
    rw [anyK_s, cntK, anyK_cnt f n q k]
    cases kill (f 0) (f 1) (f 2) n (nI (k / 10)) (nI (k % 10)) q <;> simp
theorem ue_ct {n t : Nat} {p : FF} {g : FF} (h : Agree n t p (sb g 3)) : fb_ct (eqM (sb g 3) n) (4 * n) + fb_ct (anyK p n 100) (4 * n) = 4 * n := by
  have e := fb_ct_not (eqM (sb g 3) n) (4 * n)
  have c : fb_ct (anyK p n 100) (4 * n) = fb_ct (fun k => !eqM (sb g 3) n k) (4 * n) := fb_ct_cong (fun q hq => by
    rw [anyK_cnt, ag_cnt h hq 100]
    unfold eqM
    rw [decide_not])
  rw [c]; exact e
theorem hard_hd5 {t : Nat} {B : Nat → Int32} {P : Nat → Nat → Bool} (ht : t ≤ 7) : ∀ k, (∀ q, q < k → B q = bs (P q) t) → (hd5 B k = none ∧ hard B k = (-9, 8)) ∨ ∃ a, a < k ∧ hd5 B k = some a ∧ hard B k = (nI a, pcnt (B a))
  | 0, _ => Or.inl ⟨rfl, rfl⟩
  | k + 1, h => by
    have cnt : ∀ q, q < k + 1 → pcnt (B q) = nI (fb_ct (P q) t) ∧ sz (B q) = nI (fb_ct (P q) t) := fun q hq => by
      rw [h q hq]; exact ⟨pcnt_bs _ (by omega), sz_bs _ (by omega)⟩
    have le : ∀ q, fb_ct (P q) t ≤ 7 := fun q => Nat.le_trans (fb_ct_le (P q) t) ht
    have lk := le k
    have hk := h k (by omega)
    have ck := (cnt k (by omega)).1
    have sk := (cnt k (by omega)).2
    have ih := hard_hd5 ht k (fun q hq => h q (by omega))
    by_cases hz : B k = 0
    · have z : fb_ct (P k) t = 0 := by rw [hk] at hz; exact fb_ct_zero.mpr ((bs_zero (by omega)).mp hz)
      have e1 : hd5 B (k + 1) = hd5 B k := by rw [hd5, if_pos hz]
      have e2 : hard B (k + 1) = hard B k := by rw [hard, if_pos (Or.inl (by rw [ck, z]; decide))]
      rw [e1, e2]
      rcases ih with h1 | ⟨a, ha, h1⟩
      · exact Or.inl h1
      · exact Or.inr ⟨a, by omega, h1⟩
    · have pos : 0 < fb_ct (P k) t := Nat.pos_of_ne_zero (fun z => hz (by rw [hk]; exact (bs_zero (by omega)).mpr (fb_ct_zero.mp z)))
      have n1 : ¬ nI (fb_ct (P k) t) ≤ 0 := nI_nle pos (by omega)
      rcases ih with ⟨e1, e2⟩ | ⟨a, ha, e1, e2⟩
      · refine Or.inr ⟨k, by omega, by simp [hd5, hz, e1], ?_⟩
        rw [hard, e2, if_neg]
        intro z
        rw [ck] at z
        rcases z with z | z
        · exact n1 z
        · have z : nI 8 ≤ nI (fb_ct (P k) t) := z
          rw [le_nI (by omega) (by omega)] at z
          omega
      · have ca := (cnt a (by omega)).1
        have sa := (cnt a (by omega)).2
        have la := le a
        by_cases c : fb_ct (P a) t ≤ fb_ct (P k) t
        · refine Or.inr ⟨a, by omega, ?_, ?_⟩
          · rw [hd5, if_neg hz, e1]
            show (if sz (B a) ≤ sz (B k) then some a else some k) = some a
            rw [if_pos (by rw [sa, sk]; exact (le_nI (by omega) (by omega)).mpr c)]
          · rw [hard, e2, if_pos (Or.inr ?_)]
            show pcnt (B a) ≤ pcnt (B k)
            rw [ca, ck]; exact (le_nI (by omega) (by omega)).mpr c
        · refine Or.inr ⟨k, by omega, ?_, ?_⟩
          · rw [hd5, if_neg hz, e1]
            show (if sz (B a) ≤ sz (B k) then some a else some k) = some k
            rw [if_neg (by rw [sa, sk]; exact fun z => c ((le_nI (by omega) (by omega)).mp z))]
          · rw [hard, e2, if_neg]
            rintro (z | z)
            · rw [ck] at z; exact n1 z
            · have z : pcnt (B a) ≤ pcnt (B k) := z
              rw [ca, ck] at z
              exact c ((le_nI (by omega) (by omega)).mp z)
theorem op2_hardest (f : FF) (v : VV) (g : FF) (u : VV) (h : Rel0 f v g u) : Q_X4_hardest f v (fun r f1 v1 => Q_X5_hardest g u (fun r' g1 u1 => r = r' ∧ Rel0 f1 v1 g1 u1)) := by
  obtain ⟨n, t, P1, P2, P3, P4, P5⟩ := h.2.1
  have ht := P1.2.1
  refine q_isEmpty P1 (fun e => yes1 ⟨fun c => absurd ((n0 P2.1 P2.2.2.1).mpr e) c, fun _ => ⟨rfl, h⟩⟩) (fun e => no0 (q_killsNow P1 (fun f' v' hc hK => q_hardestMutant hK.1 ?_)))
  refine q5_hardest P2 e (fun g' he => ⟨?_, h.fr hc he⟩)
  have hB : ∀ q, q < 4 * n → sb f' 33 1 q = bs (fun i => kt' (sb f 5) n i q) t := fun q hq => hK.2.2.2.1 q hq
  rw [hd5_cong (B := kls g n t) (B' := sb f' 33 1) (fun q hq => by rw [hB q hq, kls_eq P4 hq])]
  rcases hard_hd5 (P := fun q i => kt' (sb f 5) n i q) ht (4 * n) hB with ⟨e1, e2⟩ | ⟨a, _, e1, e2⟩
  · rw [e1, e2]; rfl
  · rw [e1, e2]; rfl
theorem op2_log (p0 : Int32) (f : FF) (v : VV) (g : FF) (u : VV) (h : Rel0 f v g u) : Q_X4_log p0 f v (fun r f1 v1 => Q_X5_log p0 g u (fun r' g1 u1 => r = r' ∧ Rel0 f1 v1 g1 u1)) := by
  obtain ⟨n, t, P1, P2, P3, P4, P5⟩ := h.2.1
  have hn := P1.1
  have ht := P1.2.1
  refine q_hasTest P1 (fun k hk ek => yes1' ?_) (fun hk => no0' (q5_isTest0 P2 hk (no0' ⟨rfl, h⟩)))
  subst ek
  have vk : vp_in (nI k) 7 := vi_nI (by omega) (by omega)
  have e8 : f 8 k = g 6 k := (P4.2 k hk).1
  refine ⟨vk, ?_⟩
  have st : ∀ (v2 : VV) (u2 : VV) (x : Int32), v2 = fu v 1 (31 * v 1 + x) → u2 = fu u 1 (31 * u 1 + x) → Rel0 f v2 g u2 := by
    intro v2 u2 x e1 e2
    rw [e1, e2, show v 1 = u 1 from h.2.2.2.1]
    exact h.trace _
  rw [nI_clamp (by omega), e8]
  refine ⟨fun c v2 ev2 => ?_, fun c v2 ev2 => ?_⟩
  · have P1' : PI n t (sb f 5) (sb v2 11) := P1.rows (fun _ _ => rfl) (by rw [sb_add, ev2, fu_ne (by decide)]; rfl) (by rw [sb_add, ev2, fu_ne (by decide)]; rfl)
    refine q_killedByTest P1' hk (fun f' hf' f7 ef v8 ev => q_bitCount ?_)
    refine q5_isTest1 P2 hk (yes1' ⟨vk, ?_⟩)
    rw [nI_clamp (by omega)]
    refine ⟨fun _ u2 eu2 => ⟨vk, fun _ => ?_, fun z => absurd z c⟩, fun z => absurd z c⟩
    have P2' : PI n t (sb g 3) (sb u2 2) := P2.rows (fun _ _ => rfl) (by rw [sb_add, eu2, fu_ne (by decide)]; rfl) (by rw [sb_add, eu2, fu_ne (by decide)]; rfl)
    refine q5_findKillers P2' (fun g' hs hB => ?_)
    have P2'' : PI n t (sb g' 3) (sb u2 2) := P2'.rows (fun j hj => hs.pv j (by omega)) rfl rfl
    exact q5_killedBy P2'' (by omega) (q5_size ⟨(pcnt_sz (kt' (sb f 5) n k) (m := 4 * n) (by omega)).trans (congrArg sz (kB_eq P4 hn ht hk hB)), (st v2 u2 4 ev2 eu2).fr ((back_fb hf' ef ev).1.fc (by decide)) hs.fe⟩)
  · refine q5_isTest1 P2 hk (yes1' ⟨vk, ?_⟩)
    rw [nI_clamp (by omega)]
    exact ⟨fun z => absurd c z, fun _ u2 eu2 => ⟨vk, fun z => absurd c z, fun _ => ⟨rfl, st v2 u2 5 ev2 eu2⟩⟩⟩
theorem op2_many (p0 : Int32) (f : FF) (v : VV) (g : FF) (u : VV) (h : Rel0 f v g u) : Q_X4_many p0 f v (fun r f1 v1 => Q_X5_many p0 g u (fun r' g1 u1 => r = r' ∧ Rel0 f1 v1 g1 u1)) := by
  obtain ⟨n, t, P1, P2, P3, P4, P5⟩ := h.2.1
  obtain ⟨c8, r1, r2, r3, r4⟩ := h.2.2.1
  have hn := P1.1
  have ht := P1.2.1
  have en : v 11 = u 2 := P1.2.2.1.trans P2.2.2.1.symm
  have et : v 12 = u 3 := P1.2.2.2.1.trans P2.2.2.2.1.symm
  have e8 : v 0 = u 8 := r2.trans r3.symm
  have fin : ∀ (r : Int32) (f1 : FF) (v1 : VV), FC f v f1 v1 → (p0 = 0 → r = u 2) → (p0 = 1 → r = u 3) → (p0 = 2 → r = nI (4 * n)) → (p0 = 3 → r = nI (fb_ct (fun q => decide (¬ kls g n t q = 0)) (4 * n))) → (p0 = 4 → r = nI (fb_ct (eqM (sb g 3) n) (4 * n))) → (p0 = 5 → r = u 8) → (¬ p0 = 0 → ¬ p0 = 1 → ¬ p0 = 2 → ¬ p0 = 3 → ¬ p0 = 4 → ¬ p0 = 5 → r = -2) → Q_X5_many p0 g u (fun r' g1 u1 => r = r' ∧ Rel0 f1 v1 g1 u1) := by
    intro r f1 v1 hc a0 a1 a2 a3 a4 a5 a6
    have z : Rel0 f1 v1 g u := h.fr hc FE.rf
    refine ⟨fun c => ⟨a0 c, z⟩, fun c0 => ⟨fun c => ⟨a1 c, z⟩, fun c1 => ⟨fun c => q5_mutants P2 ⟨a2 c, z⟩, fun c2 => ⟨fun c => q5_findKillers P2 (fun g' hs hB => q5_killed (P2.rows (fun j hj => hs.pv j (by omega)) rfl rfl) ⟨?_, h.fr hc hs.fe⟩), fun c3 => ⟨fun c => q5_manyEqual P2 (fun g' hs => ⟨a4 c, h.fr hc hs.fe⟩), fun c4 => ⟨fun c => ⟨a5 c, z⟩, fun c5 => ⟨a6 c0 c1 c2 c3 c4 c5, z⟩⟩⟩⟩⟩⟩⟩
    rw [a3 c]
    congr 1
    exact fb_ct_cong (fun q hq => by rw [hB q hq])
  have nx : ∀ {a b : Int32}, p0 = a → ¬ a = b → ¬ p0 = b := fun e ne z => ne (e.symm.trans z)
  refine ⟨fun c => fin _ _ _ FC.rf (fun _ => en) (fun z => absurd z (nx c (by decide))) (fun z => absurd z (nx c (by decide))) (fun z => absurd z (nx c (by decide))) (fun z => absurd z (nx c (by decide))) (fun z => absurd z (nx c (by decide))) (fun z => absurd c z), fun c0 => ⟨fun c => fin _ _ _ FC.rf (fun z => absurd z c0) (fun _ => et) (fun z => absurd z (nx c (by decide))) (fun z => absurd z (nx c (by decide))) (fun z => absurd z (nx c (by decide))) (fun z => absurd z (nx c (by decide))) (fun _ z => absurd c z), fun c1 => ⟨fun c => q_mutants P1 (fin _ _ _ FC.rf (fun z => absurd z c0) (fun z => absurd z c1) (fun _ => rfl) (fun z => absurd z (nx c (by decide))) (fun z => absurd z (nx c (by decide))) (fun z => absurd z (nx c (by decide))) (fun _ _ z => absurd c z)), fun c2 => ⟨fun c => q_killsNow P1 (fun f' v' hc hK => q_bitCount (fin _ _ _ hc (fun z => absurd z c0) (fun z => absurd z c1) (fun z => absurd z c2) (fun _ => ?_) (fun z => absurd z (nx c (by decide))) (fun z => absurd z (nx c (by decide))) (fun _ _ _ z => absurd c z))), fun c3 => ⟨fun c => q_mutants P1 (q_unequalMutants P1 (fun f' hf' => q_bitCount (fun f14 ef v15 ev => fin _ _ _ ((back_fb hf' ef ev).1.fc (by decide)) (fun z => absurd z c0) (fun z => absurd z c1) (fun z => absurd z c2) (fun z => absurd z c3) (fun _ => ?_) (fun z => absurd z (nx c (by decide))) (fun _ _ _ _ z => absurd c z)))), fun c4 => ⟨fun c => fin _ _ _ FC.rf (fun z => absurd z c0) (fun z => absurd z c1) (fun z => absurd z c2) (fun z => absurd z c3) (fun z => absurd z c4) (fun _ => e8) (fun _ _ _ _ _ z => absurd c z), fun c5 => fin _ _ _ FC.rf (fun z => absurd z c0) (fun z => absurd z c1) (fun z => absurd z c2) (fun z => absurd z c3) (fun z => absurd z c4) (fun z => absurd z c5) (fun _ _ _ _ _ _ => rfl)⟩⟩⟩⟩⟩⟩
  · rw [hK.2.2.2.2]; exact kd_ct P4 hn ht
  · have e := ue_ct P4
    rw [pcnt_bs _ (by omega), nI_sub (by omega)]
    congr 1
    omega
theorem op2_score (p0 : Int32) (f : FF) (v : VV) (g : FF) (u : VV) (h : Rel0 f v g u) : Q_X4_score p0 f v (fun r f1 v1 => Q_X5_score p0 g u (fun r' g1 u1 => r = r' ∧ Rel0 f1 v1 g1 u1)) := by
  obtain ⟨n, t, P1, P2, P3, P4, P5⟩ := h.2.1
  have hn := P1.1
  have ht := P1.2.1
  refine q_isWithin (fun a b => yes1 ?_) (fun a => no0 (q5_within0 a (no0 ⟨rfl, h⟩)))
  refine q_isEmpty P1 (fun e => yes1 (q5_within1 a b (yes1 ⟨fun c => absurd ((n0 P2.1 P2.2.2.1).mpr e) c, fun _ => ⟨rfl, h⟩⟩))) (fun e => no0 (q_killsNow P1 (fun f' v' hc hK => q_bitCount ?_)))
  have P1' : PI n t (sb f' 5) (sb v' 11) := P1.rows (fun j hj => hc.1 (5 + j) (by omega)) (hc.2 11 (by decide)) (hc.2 12 (by decide))
  have P4' : Agree n t (sb f' 5) (sb g 3) := P4.of (fun r hr => hc.1 (5 + r) (by omega)) (fun _ _ => rfl)
  refine q_unequalMutants P1' (fun f2 hf2 f12 ef v13 ev => q_bitCount ?_)
  have hc2 : FC f v f12 v13 := hc.tr ((back_fb hf2 ef ev).1.fc (by decide))
  have ue := ue_ct P4'
  have lk := fb_ct_le (fun q => decide (¬ kls g n t q = 0)) (4 * n)
  rw [hK.2.2.2.2, kd_ct P4 hn ht, pcnt_bs _ (by omega)]
  refine q_share (by omega) (by omega) ?_
  refine q5_within1 a b (yes1 ⟨fun _ => q5_findKillers P2 (fun g' hs hB => ?_), fun c => absurd ((n0 P2.1 P2.2.2.1).mp c) e⟩)
  have P2' : PI n t (sb g' 3) (sb u 2) := P2.rows (fun j hj => hs.pv j (by omega)) rfl rfl
  refine q5_mutants P2' (q5_manyEqual P2' (fun g2 hs2 x ex => ?_))
  have ee : fb_ct (eqM (sb g' 3) n) (4 * n) = fb_ct (eqM (sb g 3) n) (4 * n) := fb_ct_cong (fun k hk => by unfold eqM; rw [cntK_rows (fun j hj => hs.pv j hj)])
  rw [ee, nI_sub (by omega)] at ex
  have P2'' : PI n t (sb g2 3) (sb u 2) := P2'.rows (fun j hj => hs2.pv j (by omega)) rfl rfl
  have z : Rel0 f12 v13 g2 u := h.fr hc2 (hs.fe.tr hs2.fe)
  have eb : 4 * n - fb_ct (eqM (sb g 3) n) (4 * n) = fb_ct (anyK (sb f' 5) n 100) (4 * n) := by omega
  rw [eb] at ex
  have ek : fb_ct (fun q => decide (¬ g2 13 q = 0)) (4 * n) = fb_ct (fun q => decide (¬ kls g n t q = 0)) (4 * n) := fb_ct_cong (fun q hq => by rw [hs2 13 (by decide), hB q hq])
  have x0 : x = 0 ↔ fb_ct (anyK (sb f' 5) n 100) (4 * n) = 0 := by rw [ex]; exact nI_eq (b := 0) (by omega) (by omega)
  refine ⟨fun c => q5_killed P2'' ?_, fun c => ⟨?_, z⟩⟩
  · have c0 : ¬ fb_ct (anyK (sb f' 5) n 100) (4 * n) = 0 := fun z => c (x0.mpr z)
    rw [ek, ex, i2l (by omega), i2l (by omega)]
    refine q5_inLeastTerms (by omega) (by omega) (by omega) ⟨?_, z⟩
    unfold shr; rw [if_neg c0]
  · unfold shr; rw [if_pos (x0.mp c)]
/-! ===== COVER: the class's and the reference's ===== -/
theorem any_iff {p : Nat → Bool} {t : Nat} : (List.range t).any p = true ↔ ∃ i, i < t ∧ p i = true := by
  rw [List.any_eq_true]
  constructor
  · rintro ⟨x, hx, a⟩; exact ⟨x, List.mem_range.mp hx, a⟩
  · rintro ⟨x, hx, a⟩; exact ⟨x, List.mem_range.mpr hx, a⟩
theorem bs_ne {p : Nat → Bool} {t : Nat} (ht : t ≤ 32) : ¬ bs p t = 0 ↔ (List.range t).any p = true := by
  rw [any_iff, bs_zero ht]
  constructor
  · intro h
    apply Classical.byContradiction
    intro c
    refine h (fun k hk => ?_)
    cases hb : p k with
    | false => rfl
    | true => exact absurd ⟨k, hk, hb⟩ c
  · rintro ⟨i, hi, e⟩ h
    rw [h i hi] at e
    exact absurd e (by decide)
theorem and_bs {p : Nat → Bool} {t : Nat} (ht : t ≤ 32) (S : Int32) : bs p t &&& S = bs (fun i => bt S i && p i) t := by
  apply b_ext
  intro i hi
  rw [b_and, bt_bs _ t ht i hi, bt_bs _ t ht i hi]
  cases decide (i < t) <;> cases p i <;> cases bt S i <;> rfl
theorem bs_inj {p q : Nat → Bool} {m : Nat} (hm : m ≤ 32) (h : bs p m = bs q m) : ∀ k, k < m → p k = q k := by
  intro k hk
  have a := bt_bs p m hm k (by omega)
  have b := bt_bs q m hm k (by omega)
  rw [decide_eq_true hk, Bool.true_and] at a b
  rw [← a, ← b, h]
theorem bit0 (S : Int32) {k : Nat} (hk : k < 32) : ((S >>> (nI k &&& 31)) &&& 1) = 0 ↔ bt S k = false := by
  rw [shr1 S hk]
  cases bt S k <;> simp
theorem unK_bs {P : Nat → Nat → Bool} {m : Nat} (hm : m ≤ 32) {B : Nat → Int32} (S : Int32) : ∀ t, t ≤ 32 → (∀ i, i < t → B i = bs (P i) m) → unK B S t = bs (fun q => (List.range t).any (fun i => bt S i && P i q)) m
  | 0, _, _ => ((bs_zero hm).mpr (fun _ _ => rfl)).symm
  | t + 1, ht, h => by
    have ih := unK_bs hm S t (by omega) (fun i hi => h i (by omega))
    rw [unK, ih]
    by_cases c : ((S >>> (nI t &&& 31)) &&& 1) = 0
    · rw [if_pos c]
      rw [bit0 S (by omega)] at c
      refine bs_cong (fun q _ => ?_)
      rw [List.range_succ, List.any_append]
      simp [c]
    · rw [if_neg c, h t (by omega), bs_or hm]
      rw [bit0 S (by omega)] at c
      refine bs_cong (fun q _ => ?_)
      rw [List.range_succ, List.any_append]
      simp at c
      simp [c]
theorem cov_iff {P : Nat → Nat → Bool} {m t : Nat} (hm : m ≤ 20) (ht : t ≤ 7) {B B' : Nat → Int32} {kd : Int32} (hB : ∀ i, i < t → B i = bs (P i) m) (hk : kd = bs (fun q => (List.range t).any (fun i => P i q)) m) (hB' : ∀ q, q < m → B' q = bs (fun i => P i q) t) (S : Int32) : unK B S t = kd ↔ lft B' S m = 0 := by
  rw [unK_bs (by omega) S t (by omega) hB, hk]
  have e : ∀ q, q < m → decide (¬ B' q = 0 ∧ (B' q &&& S) = 0) = ((List.range t).any (fun i => P i q) && !(List.range t).any (fun i => bt S i && P i q)) := by
    intro q hq
    have a := bs_ne (p := fun i => P i q) (t := t) (by omega)
    have b := bs_ne (p := fun i => bt S i && P i q) (t := t) (by omega)
    rw [hB' q hq, and_bs (by omega) S]
    cases hA : (List.range t).any (fun i => P i q) with
    | false =>
      rw [hA] at a
      rw [decide_eq_false (fun z => absurd (a.mp z.1) (by decide))]; rfl
    | true =>
      cases hC : (List.range t).any (fun i => bt S i && P i q) with
      | false =>
        rw [hC] at b
        exact decide_eq_true ⟨a.mpr hA, Classical.byContradiction (fun z => absurd (b.mp z) (by decide))⟩
      | true => exact decide_eq_false (fun z => b.mpr hC z.2)
  have le : ∀ q, (List.range t).any (fun i => bt S i && P i q) = true → (List.range t).any (fun i => P i q) = true := by
    intro q h
    rw [any_iff] at h ⊢
    obtain ⟨i, hi, z⟩ := h
    rw [Bool.and_eq_true] at z
    exact ⟨i, hi, z.2⟩
  unfold lft
  rw [bs_zero (by omega)]
  constructor
  · intro h q hq
    have := bs_inj (by omega) h q hq
    rw [e q hq, this]
    cases (List.range t).any (fun i => P i q) <;> rfl
  · intro h
    refine bs_cong (fun q hq => ?_)
    have := h q hq
    rw [e q hq] at this
    have l := le q
    revert this l
    cases (List.range t).any (fun i => P i q) <;> cases (List.range t).any (fun i => bt S i && P i q) <;> simp
theorem sumW_rng {W : Nat → Int32} (S : Int32) : ∀ t, t ≤ 7 → (∀ i, i < t → ∃ w, w ≤ 18 ∧ W i = nI w) → ∃ s, s ≤ 18 * t ∧ sumW W S t = nI s
  | 0, _, _ => ⟨0, by omega, rfl⟩
  | t + 1, ht, h => by
    obtain ⟨s, hs, e⟩ := sumW_rng S t (by omega) (fun i hi => h i (by omega))
    obtain ⟨w, hw, ew⟩ := h t (by omega)
    rw [sumW, e, bit_mul _ _ (by omega), ew]
    by_cases c : ((S >>> (nI t &&& 31)) &&& 1) = 1
    · rw [if_pos c, nI_add]; exact ⟨s + w, by omega, rfl⟩
    · rw [if_neg c]; exact ⟨s, by omega, by simp⟩
theorem wgt_n : ∀ κ, κ < 3 → ∀ τ, τ < 10 → wgt (nI κ) (nI τ) = nI (if κ = 0 then τ else if κ = 1 then τ + 1 else 2 * τ) := by decide +kernel
theorem VD.w {t : Nat} {p : FF} (h : VD t p) {i : Nat} (hi : i < t) : ∃ w, w ≤ 18 ∧ wgt (p 3 i) (p 4 i) = nI w := by
  obtain ⟨⟨κ, hκ, e1⟩, τ, hτ, e2⟩ := h i hi
  rw [e1, e2, wgt_n κ hκ τ hτ]
  refine ⟨_, ?_, rfl⟩
  split
  · omega
  · split <;> omega
theorem n_9 : ∀ a, a < 128 → ¬ nI a = -9 := by decide +kernel
theorem light_cov {F : FF} {B' W : Nat → Int32} {P : Nat → Nat → Bool} {m t : Nat} {kd : Int32} (hm : m ≤ 20) (ht : t ≤ 7) (h0 : ∀ i, i < t → F 0 i = bs (P i) m) (h2 : ∀ i, i < t → F 2 i = W i) (hW : ∀ i, i < t → ∃ w, w ≤ 18 ∧ W i = nI w) (hk : kd = bs (fun q => (List.range t).any (fun i => P i q)) m) (hB' : ∀ q, q < m → B' q = bs (fun i => P i q) t) :
    ∀ k, k ≤ 2 ^ t → (light F t kd k = (0, 2147483647) ∧ cov B' W m t k = -9 ∧ ∀ j, j < k → ¬ lft B' (nI j) m = 0) ∨ ∃ a, a < k ∧ light F t kd k = (nI a, sumW W (nI a) t) ∧ cov B' W m t k = nI a
  | 0, _ => Or.inl ⟨rfl, rfl, fun j hj => absurd hj (by omega)⟩
  | k + 1, hk1 => by
    have h128 := two_t ht
    have ih := light_cov hm ht h0 h2 hW hk hB' k (by omega)
    have ci := cov_iff hm ht h0 hk hB' (nI k)
    have e1 : light F t kd (k + 1) = if (light F t kd k).2 ≤ sumW W (nI k) t ∨ ¬ unK (F 0) (nI k) t = kd then light F t kd k else (nI k, sumW W (nI k) t) := by rw [light, sumW_cong (nI k) h2]
    have e2 : cov B' W m t (k + 1) = if ¬ lft B' (nI k) m = 0 then cov B' W m t k else if cov B' W m t k = -9 then nI k else if sumW W (cov B' W m t k) t ≤ sumW W (nI k) t then cov B' W m t k else nI k := by rw [cov]
    rw [e1, e2]
    by_cases hl : lft B' (nI k) m = 0
    · have hu := ci.mpr hl
      rw [if_neg (not_not_intro hl)]
      rcases ih with ⟨a1, a2, _⟩ | ⟨a, ha, a1, a2⟩
      · refine Or.inr ⟨k, by omega, ?_, ?_⟩
        · obtain ⟨s, hs, es⟩ := sumW_rng (nI k) t ht hW
          rw [if_neg]
          rw [a1, es]
          rintro (z | z)
          · have z : nI 2147483647 ≤ nI s := z
            rw [le_nI (by omega) (by omega)] at z
            omega
          · exact z hu
        · rw [if_pos a2]
      · rw [a2, if_neg (n_9 a (by omega))]
        by_cases c : sumW W (nI a) t ≤ sumW W (nI k) t
        · exact Or.inr ⟨a, by omega, by rw [if_pos (Or.inl (by rw [a1]; exact c)), a1], by rw [if_pos c]⟩
        · refine Or.inr ⟨k, by omega, ?_, by rw [if_neg c]⟩
          rw [if_neg]
          rw [a1]
          rintro (z | z)
          · exact c z
          · exact z hu
    · have hu : ¬ unK (F 0) (nI k) t = kd := fun z => hl (ci.mp z)
      rw [if_pos hl, if_pos (Or.inr hu)]
      rcases ih with ⟨a1, a2, a3⟩ | ⟨a, ha, a1, a2⟩
      · refine Or.inl ⟨a1, a2, fun j hj => ?_⟩
        rcases Nat.lt_succ_iff_lt_or_eq.mp hj with hj | rfl
        · exact a3 j hj
        · exact hl
      · exact Or.inr ⟨a, by omega, a1, a2⟩
theorem bt_nI (k : Nat) {i : Nat} (hi : i < 32) : bt (nI k) i = k.testBit i := by
  show (BitVec.ofNat 32 k).getLsbD i = _
  rw [BitVec.getLsbD_ofNat, decide_eq_true hi, Bool.true_and]
theorem light_cov1 {F : FF} {B' W : Nat → Int32} {P : Nat → Nat → Bool} {m t : Nat} {kd : Int32} (hm : m ≤ 20) (ht : t ≤ 7) (h0 : ∀ i, i < t → F 0 i = bs (P i) m) (h2 : ∀ i, i < t → F 2 i = W i) (hW : ∀ i, i < t → ∃ w, w ≤ 18 ∧ W i = nI w) (hk : kd = bs (fun q => (List.range t).any (fun i => P i q)) m) (hB' : ∀ q, q < m → B' q = bs (fun i => P i q) t) :
    ∃ a, a < 128 ∧ (light F t kd (2 ^ t)).1 = nI a ∧ cov B' W m t (2 ^ t) = nI a := by
  have h128 := two_t ht
  have hp : 0 < 2 ^ t := Nat.two_pow_pos t
  rcases light_cov hm ht h0 h2 hW hk hB' (2 ^ t) (Nat.le_refl _) with ⟨_, _, a3⟩ | ⟨a, ha, a1, a2⟩
  · refine absurd ?_ (a3 (2 ^ t - 1) (by omega))
    rw [← cov_iff hm ht h0 hk hB' (nI (2 ^ t - 1)), unK_bs (by omega) _ t (by omega) h0, hk]
    refine bs_cong (fun q _ => any_cong (fun i hi => ?_))
    rw [bt_nI _ (by omega), Nat.testBit_two_pow_sub_one, decide_eq_true hi, Bool.true_and]
  · exact ⟨a, by omega, by rw [a1], a2⟩
theorem lS_cov {n t : Nat} {p : FF} {g : FF} (h : Agree n t p (sb g 3)) (hv : VD t p) (hn : n ≤ 5) (ht : t ≤ 7) : ∃ a, a < 128 ∧ lS n t p = nI a ∧ cov (kls g n t) (fun j => wgt (g 6 j) (g 7 j)) (4 * n) t (2 ^ t) = nI a := by
  have hw : ∀ i, i < t → wgt (p 3 i) (p 4 i) = wgt (g 6 i) (g 7 i) := fun i hi => ag_wgt h hi
  refine light_cov1 (F := kF n p) (P := fun i q => kt' p n i q) (by omega) ht (fun i _ => ?_) (fun i hi => ?_) (fun i hi => ?_) rfl (fun q hq => (kls_eq h hq).symm)
  · unfold kF; rw [if_pos rfl]
  · unfold kF; rw [if_neg (by decide)]; exact hw i hi
  · show ∃ w, w ≤ 18 ∧ wgt (g 6 i) (g 7 i) = nI w
    rw [← hw i hi]; exact hv.w hi
theorem cwC_cw5 {n t : Nat} {p : FF} {g : FF} (h : Agree n t p (sb g 3)) (hv : VD t p) (hn : n ≤ 5) (ht : t ≤ 7) : cwC n t p = cw5 g n t := by
  obtain ⟨a, _, e1, e2⟩ := lS_cov h hv hn ht
  unfold cwC cw5
  rw [e1, e2]
  exact sumW_cong _ (fun i hi => ag_wgt h hi)
theorem ps128 : ∀ a, a < 128 → pcnt (nI a) = sz (nI a) := by decide +kernel
theorem op2_cover (p0 : Int32) (f : FF) (v : VV) (g : FF) (u : VV) (h : Rel0 f v g u) : Q_X4_cover p0 f v (fun r f1 v1 => Q_X5_cover p0 g u (fun r' g1 u1 => r = r' ∧ Rel0 f1 v1 g1 u1)) := by
  obtain ⟨n, t, P1, P2, P3, P4, P5⟩ := h.2.1
  have hn := P1.1
  have ht := P1.2.1
  obtain ⟨s, hs0, es, ec⟩ := lS_cov P4 P5 hn ht
  refine q_isWithin (fun a b => yes1' ?_) (fun a => no0' (q5_within0 a (no0' ⟨rfl, h⟩)))
  refine q_isEmpty P1 (fun e => yes1 (q5_within1 a b (yes1' ⟨fun c => absurd ((n0 P2.1 P2.2.2.1).mpr e) c, fun _ => ⟨rfl, h⟩⟩))) (fun e => no0 (q_killsNow P1 (fun f' v' hc hK => q_light hK ?_)))
  rw [es]
  have fin : ∀ r : Int32, (p0 = 0 → r = nI s) → (¬ p0 = 0 → p0 = 1 → r = sumW (fun j => wgt (g 6 j) (g 7 j)) (nI s) t) → (¬ p0 = 0 → ¬ p0 = 1 → r = sz (nI s)) → Q_X5_cover p0 g u (fun r' g1 u1 => r = r' ∧ Rel0 f' v' g1 u1) := by
    intro r r0 r1 r2
    refine q5_within1 a b (yes1' ⟨fun _ => q5_findKillers P2 (fun g' hs hB => ?_), fun c => absurd ((n0 P2.1 P2.2.2.1).mp c) e⟩)
    have P2' : PI n t (sb g' 3) (sb u 2) := P2.rows (fun j hj => hs.pv j (by omega)) rfl rfl
    have z : Rel0 f' v' g' u := h.fr hc hs.fe
    have e6 := hs 6 (by decide) (by decide)
    have e7 := hs 7 (by decide) (by decide)
    refine q5_findCover P2' ?_
    rw [e6, e7, cov_cong hB, ec]
    refine ⟨fun c0 => ⟨fun c1 => q5_size ⟨r2 c0 c1, z⟩, fun c1 => q5_weightOfSet P2' ⟨?_, z⟩⟩, fun c0 => ⟨r0 c0, z⟩⟩
    rw [e6, e7]; exact r1 c0 c1
  refine ⟨fun c0 => fin _ (fun _ => rfl) (fun z => absurd c0 z) (fun z => absurd c0 z), fun c0 => ⟨fun c1 => q_wS hK (fin _ (fun z => absurd z c0) (fun _ _ => sumW_cong _ (fun i hi => ag_wgt P4 hi)) (fun _ z => absurd c1 z)), fun c1 => q_bitCount (fin _ (fun z => absurd z c0) (fun _ z => absurd z c1) (fun _ _ => ps128 s hs0))⟩⟩
theorem allEq_cong {r r' : Nat → Int32} {w : Int32} : ∀ {c : Nat}, (∀ i, i < c → r i = r' i) → allEq r w c = allEq r' w c
  | 0, _ => rfl
  | c + 1, h => by rw [allEq, allEq, allEq_cong (fun i hi => h i (by omega)), h c (by omega)]
theorem so_eq {n t c : Nat} {r : Nat → Int32} {p : FF} {g : FF} (h : Agree n t p (sb g 3)) (hv : VD t p) (hn : n ≤ 5) (ht : t ≤ 7) (hr : ∀ i, i < c → r i = g 16 i) : soC r p n t c = so5 g n t c := by
  unfold soC so5
  rw [cwC_cw5 h hv hn ht, allEq_cong hr]
theorem op2_kinds (p0 : Int32) (f : FF) (v : VV) (g : FF) (u : VV) (h : Rel0 f v g u) : Q_X4_kinds p0 f v (fun r f1 v1 => Q_X5_kinds p0 g u (fun r' g1 u1 => r = r' ∧ Rel0 f1 v1 g1 u1)) := by
  obtain ⟨n, t, P1, P2, P3, P4, P5⟩ := h.2.1
  obtain ⟨c, r1, r2, r3, r4⟩ := h.2.2.1
  have hn := P1.1
  have ht := P1.2.1
  refine q_hasTest P1 (fun k hk ek => yes1' ?_) (fun hk => no0' (q5_kinds P2 r1 r3 (fun j hj ej => absurd ej (hk j hj)) (fun _ => ⟨rfl, h⟩)))
  subst ek
  refine q_trial P1 (fun f' v' hf hv hP hA => ⟨3 + 1, ?_⟩)
  refine q_kinds_loop (by omega) P1 r1 r2 (fun x f2 v2 hT => ?_) 3 0 f' v' (by omega) ⟨fun j hj => hf j (by omega), fun i hi => hv i (by omega) (by omega)⟩ hP.2.2.1 hP.2.2.2.1 ⟨f 8 k, hA.of (fun _ _ => rfl) (fun r hr => by
    by_cases e : r = 3
    · rw [e, fu_eq, upd_id]; rfl
    · rw [fu_ne e])⟩
  refine q5_kinds P2 r1 r3 (fun j hj ej g' hs => ⟨?_, h.fr hT hs.fe⟩) (fun hne => absurd rfl (hne k hk))
  have ej : k = j := (nI_eq (by omega) (by omega)).mp ej
  subst ej
  refine bs_cong (fun i hi => so_eq ⟨fun q hq => ⟨?_, ?_, ?_⟩, fun q hq => ⟨?_, ?_, ?_, ?_⟩⟩ (fun q hq => ⟨?_, ?_⟩) hn ht (fun q hq => ?_))
  · show fu (sb f 5) 3 _ 0 q = fu g 6 _ 3 q
    rw [fu_ne (by decide), fu_ne (by decide)]; exact (P4.1 q hq).1
  · show fu (sb f 5) 3 _ 1 q = fu g 6 _ 4 q
    rw [fu_ne (by decide), fu_ne (by decide)]; exact (P4.1 q hq).2.1
  · show fu (sb f 5) 3 _ 2 q = fu g 6 _ 5 q
    rw [fu_ne (by decide), fu_ne (by decide)]; exact (P4.1 q hq).2.2
  · show fu (sb f 5) 3 _ 3 q = fu g 6 _ 6 q
    rw [fu_eq, fu_eq]; exact upd_ag (fun q hq => (P4.2 q hq).1) q hq
  · show fu (sb f 5) 3 _ 4 q = fu g 6 _ 7 q
    rw [fu_ne (by decide), fu_ne (by decide)]; exact (P4.2 q hq).2.1
  · show fu (sb f 5) 3 _ 5 q = fu g 6 _ 8 q
    rw [fu_ne (by decide), fu_ne (by decide)]; exact (P4.2 q hq).2.2.1
  · show fu (sb f 5) 3 _ 6 q = fu g 6 _ 9 q
    rw [fu_ne (by decide), fu_ne (by decide)]; exact (P4.2 q hq).2.2.2
  · rw [fu_eq]
    by_cases e : q = k
    · rw [e, upd_eq]; exact ⟨i, hi, rfl⟩
    · rw [upd_ne e]; exact (P5 q hq).1
  · rw [fu_ne (by decide)]; exact (P5 q hq).2
  · rw [fu_ne (by decide)]; exact r4 q hq
theorem op2_ways (p0 : Int32) (f : FF) (v : VV) (g : FF) (u : VV) (h : Rel0 f v g u) : Q_X4_ways p0 f v (fun r f1 v1 => Q_X5_ways p0 g u (fun r' g1 u1 => r = r' ∧ Rel0 f1 v1 g1 u1)) := by
  obtain ⟨n, t, P1, P2, P3, P4, P5⟩ := h.2.1
  obtain ⟨c, r1, r2, r3, r4⟩ := h.2.2.1
  have hn := P1.1
  have ht := P1.2.1
  refine q_hasStep P1 (fun k hk ek => yes1' ?_) (fun hk => no0' (q5_ways P2 r1 r3 (fun j hj ej => absurd ej (hk j hj)) (fun _ => ⟨rfl, h⟩)))
  subst ek
  refine q_trial P1 (fun f' v' hf hv hP hA => ⟨5 + 1, ?_⟩)
  refine q_ways_loop (by omega) P1 r1 r2 (fun x f2 v2 hT => ?_) 5 0 f' v' (by omega) ⟨fun j hj => hf j (by omega), fun i hi => hv i (by omega) (by omega)⟩ hP.2.2.1 hP.2.2.2.1 ⟨f 5 k, hA.of (fun _ _ => rfl) (fun r hr => by
    by_cases e : r = 0
    · rw [e, fu_eq, upd_id]; rfl
    · rw [fu_ne e])⟩
  refine q5_ways P2 r1 r3 (fun j hj ej g' hs => ⟨?_, h.fr hT hs.fe⟩) (fun hne => absurd rfl (hne k hk))
  have ej : k = j := (nI_eq (by omega) (by omega)).mp ej
  subst ej
  refine bs_cong (fun i hi => so_eq ⟨fun q hq => ⟨?_, ?_, ?_⟩, fun q hq => ⟨?_, ?_, ?_, ?_⟩⟩ (P5.of (fu_ne (by decide)) (fu_ne (by decide))) hn ht (fun q hq => ?_))
  · show fu (sb f 5) 0 _ 0 q = fu g 3 _ 3 q
    rw [fu_eq, fu_eq]; exact upd_ag (fun q hq => (P4.1 q hq).1) q hq
  · show fu (sb f 5) 0 _ 1 q = fu g 3 _ 4 q
    rw [fu_ne (by decide), fu_ne (by decide)]; exact (P4.1 q hq).2.1
  · show fu (sb f 5) 0 _ 2 q = fu g 3 _ 5 q
    rw [fu_ne (by decide), fu_ne (by decide)]; exact (P4.1 q hq).2.2
  · show fu (sb f 5) 0 _ 3 q = fu g 3 _ 6 q
    rw [fu_ne (by decide), fu_ne (by decide)]; exact (P4.2 q hq).1
  · show fu (sb f 5) 0 _ 4 q = fu g 3 _ 7 q
    rw [fu_ne (by decide), fu_ne (by decide)]; exact (P4.2 q hq).2.1
  · show fu (sb f 5) 0 _ 5 q = fu g 3 _ 8 q
    rw [fu_ne (by decide), fu_ne (by decide)]; exact (P4.2 q hq).2.2.1
  · show fu (sb f 5) 0 _ 6 q = fu g 3 _ 9 q
    rw [fu_ne (by decide), fu_ne (by decide)]; exact (P4.2 q hq).2.2.2
  · rw [fu_ne (by decide)]; exact r4 q hq
/-! ===== CHOOSING: the class's and the reference's ===== -/
theorem ch5_ct {B W C : Nat → Int32} {m t c : Nat} {mn : Int32} (hm : m ≤ 20) (ht : t ≤ 7) (hB : ∀ q, q < m → ∀ i, bt (B q) i = true → i < t) (h : Ch5 B W m t mn C c) : ∀ k, k ≤ c → fb_ct (fun i => bt (setC C k) i) t = k
  | 0, _ => fb_ct_zero.mpr (fun k _ => b_0 k)
  | k + 1, hk => by
    obtain ⟨hl, a, hat, ha, ec⟩ := h k (by omega)
    obtain ⟨a', _, ha', hb⟩ := pick_new (W := W) (mn := mn) hm ht hB hl
    have e : a = a' := by rw [ha] at ha'; exact Option.some.inj ha'
    subst e
    have ih := ch5_ct hm ht hB h k (by omega)
    have e1 : ∀ i, i < t → bt (setC C (k + 1)) i = (fun j => if j = a then true else bt (setC C k) j) i := by
      intro i hi
      show _ = if i = a then true else bt (setC C k) i
      rw [setC, ec, b_or, b_one (by omega) (by omega)]
      by_cases hia : i = a
      · rw [if_pos hia, decide_eq_true hia, Bool.or_true]
      · rw [if_neg hia, decide_eq_false hia, Bool.or_false]
    rw [fb_ct_cong e1]
    have := fb_ct_upd (fun i => bt (setC C k) i) true hat
    simp only [hb, if_true, Bool.false_eq_true, if_false] at this
    omega
theorem ch5_le {B W C : Nat → Int32} {m t c : Nat} {mn : Int32} (hm : m ≤ 20) (ht : t ≤ 7) (hB : ∀ q, q < m → ∀ i, bt (B q) i = true → i < t) (h : Ch5 B W m t mn C c) : c ≤ t := by
  have a := ch5_ct hm ht hB h c (Nat.le_refl _)
  have b := fb_ct_le (fun i => bt (setC C c) i) t
  omega
theorem pcs {B : Nat → Int32} {m i : Nat} {left : Int32} {L : Nat → Bool} (hm : m ≤ 20) (hl : left = bs L m) : pcnt (kB B m i &&& left) = sz (kB B m i &&& left) := by
  unfold kB
  rw [hl, bs_and (by omega)]
  exact pcnt_sz _ hm
theorem btr_5 {F : FF} {B W : Nat → Int32} {m t a b : Nat} {mn left : Int32} {L : Nat → Bool} (hm : m ≤ 20) (hl : left = bs L m) (h0 : ∀ i, i < t → F 0 i = kB B m i) (h2 : ∀ i, i < t → F 2 i = W i) (ha : a < t) (hb : b < t) : btr F mn a b left = btr5 B W m mn a b left := by
  unfold btr btr5
  rw [h0 a ha, h0 b hb, h2 a ha, h2 b hb, pcs hm hl, pcs hm hl]
theorem best_pk5 {F : FF} {B W : Nat → Int32} {m t : Nat} {mn left : Int32} {L : Nat → Bool} (hm : m ≤ 20) (hl : left = bs L m) (h0 : ∀ i, i < t → F 0 i = kB B m i) (h2 : ∀ i, i < t → F 2 i = W i) :
    ∀ k, k ≤ t → (pk5 B W m mn left k = none ∧ best F mn left k = 0 ∧ ∀ i, i < k → kB B m i &&& left = 0) ∨ ∃ a, a < k ∧ pk5 B W m mn left k = some a ∧ best F mn left k = a
  | 0, _ => Or.inl ⟨rfl, rfl, fun i hi => absurd hi (by omega)⟩
  | k + 1, hk => by
    have ih := best_pk5 (mn := mn) hm hl h0 h2 k (by omega)
    by_cases c : kB B m k &&& left = 0
    · have e5 : pk5 B W m mn left (k + 1) = pk5 B W m mn left k := by rw [pk5, if_pos c]
      have eb : best F mn left (k + 1) = best F mn left k := by
        rw [best]
        by_cases hk0 : k = 0
        · subst hk0; rfl
        · rw [if_neg hk0, h0 k (by omega), if_pos c]
      rw [e5, eb]
      rcases ih with ⟨a1, a2, a3⟩ | ⟨a, a1, a2, a3⟩
      · refine Or.inl ⟨a1, a2, fun i hi => ?_⟩
        rcases Nat.lt_succ_iff_lt_or_eq.mp hi with hi | rfl
        · exact a3 i hi
        · exact c
      · exact Or.inr ⟨a, by omega, a2, a3⟩
    · rcases ih with ⟨a1, a2, a3⟩ | ⟨a, a1, a2, a3⟩
      · refine Or.inr ⟨k, by omega, by simp [pk5, c, a1], ?_⟩
        rw [best]
        by_cases hk0 : k = 0
        · rw [if_pos hk0, hk0]
        · rw [if_neg hk0, h0 k (by omega), if_neg c, a2, h0 0 (by omega), if_pos (a3 0 (by omega))]
      · have na := (pk5_lt a2).2
        have e5 : pk5 B W m mn left (k + 1) = if btr5 B W m mn k a left = true then some k else some a := by
          rw [pk5, if_neg c, a2] <;> rfl
        have eb : best F mn left (k + 1) = if btr5 B W m mn k a left = true then k else a := by
          rw [best, if_neg (by omega), h0 k (by omega), if_neg c, a3, h0 a (by omega), if_neg na, btr_5 hm hl h0 h2 (by omega) (by omega)]
        rw [e5, eb]
        by_cases cb : btr5 B W m mn k a left = true
        · rw [if_pos cb, if_pos cb]; exact Or.inr ⟨k, by omega, rfl, rfl⟩
        · rw [if_neg cb, if_neg cb]; exact Or.inr ⟨a, by omega, rfl, rfl⟩
theorem and_or0 {x S : Int32} {a : Nat} (ha : a < 32) : (x &&& (S ||| (1 : Int32) <<< (nI a &&& 31))) = 0 ↔ (x &&& S) = 0 ∧ bt x a = false := by
  constructor
  · intro h
    have hb : ∀ i, i < 32 → (bt x i && (bt S i || decide (i = a))) = false := fun i hi => by
      have := congrArg (fun z => bt z i) h
      simp only [b_and, b_or, b_0] at this
      rw [b_one ha hi] at this
      exact this
    refine ⟨b_ext (fun i hi => ?_), ?_⟩
    · have := hb i hi
      rw [b_and, b_0]
      cases hx : bt x i with
      | false => rfl
      | true =>
        rw [hx] at this
        cases hs : bt S i with
        | false => rfl
        | true => rw [hs] at this; exact absurd this (by simp)
    · have := hb a ha
      rw [decide_eq_true rfl, Bool.or_true, Bool.and_true] at this
      exact this
  · rintro ⟨h1, h2⟩
    apply b_ext
    intro i hi
    have := congrArg (fun z => bt z i) h1
    simp only [b_and, b_0] at this
    rw [b_and, b_or, b_one ha hi, b_0]
    by_cases e : i = a
    · rw [e, h2]; rfl
    · rw [decide_eq_false e, Bool.or_false]; exact this
theorem left_eq {F : FF} {B W C : Nat → Int32} {m t c : Nat} {mn kd : Int32} (hm : m ≤ 20) (ht : t ≤ 7) (h0 : ∀ i, i < t → F 0 i = kB B m i) (h2 : ∀ i, i < t → F 2 i = W i) (hk : kd = lft B 0 m) (h : Ch5 B W m t mn C c) :
    ∀ k, k ≤ c → leftN F mn t kd k = lft B (setC C k) m ∧ ∀ i, i < k → C i = nI (best F mn (leftN F mn t kd i) t)
  | 0, _ => ⟨hk, fun i hi => absurd hi (by omega)⟩
  | k + 1, hk1 => by
    obtain ⟨e, ec⟩ := left_eq hm ht h0 h2 hk h k (by omega)
    obtain ⟨hl, a, hat, ha, eC⟩ := h k (by omega)
    have hb : best F mn (lft B (setC C k) m) t = a := by
      rcases best_pk5 (mn := mn) (L := fun q => decide (¬ B q = 0 ∧ (B q &&& setC C k) = 0)) hm rfl h0 h2 t (Nat.le_refl _) with ⟨a1, _⟩ | ⟨a', _, a2, a3⟩
      · rw [show pk5 B W m mn (bs (fun q => decide (¬ B q = 0 ∧ (B q &&& setC C k) = 0)) m) t = some a from ha] at a1
        exact absurd a1 (by simp)
      · rw [show pk5 B W m mn (bs (fun q => decide (¬ B q = 0 ∧ (B q &&& setC C k) = 0)) m) t = some a from ha] at a2
        have := Option.some.inj a2
        rw [this]; exact a3
    refine ⟨?_, fun i hi => ?_⟩
    · rw [leftN, e, hb, h0 a hat, setC, eC]
      unfold kB lft
      rw [bs_diff (by omega)]
      refine bs_cong (fun q hq => ?_)
      cases hba : bt (B q) a with
      | true =>
        rw [decide_eq_false (p := ¬ B q = 0 ∧ (B q &&& (setC C k ||| (1 : Int32) <<< (nI a &&& 31))) = 0) (fun z => ?_)]
        · rw [Bool.not_true, Bool.and_false]
        · have := ((and_or0 (by omega)).mp z.2).2
          rw [hba] at this
          exact absurd this (by decide)
      | false =>
        rw [Bool.not_false, Bool.and_true]
        by_cases hq2 : ¬ B q = 0 ∧ (B q &&& setC C k) = 0
        · rw [decide_eq_true hq2, decide_eq_true ⟨hq2.1, (and_or0 (by omega)).mpr ⟨hq2.2, hba⟩⟩]
        · rw [decide_eq_false hq2, decide_eq_false (fun z => hq2 ⟨z.1, ((and_or0 (by omega)).mp z.2).1⟩)]
    · rcases Nat.lt_succ_iff_lt_or_eq.mp hi with hi | rfl
      · exact ec i hi
      · rw [e, hb]; exact eC
/-- what the class's choices are -/
def ChC (F : FF) (mn : Int32) (t : Nat) (kd : Int32) (C : Nat → Int32) (c : Nat) : Prop := c ≤ t ∧ (c = t ∨ leftN F mn t kd c = 0) ∧ (∀ i, i < c → leftN F mn t kd i ≠ 0) ∧ ∀ i, i < c → C i = nI (best F mn (leftN F mn t kd i) t)
theorem ch_eq {F : FF} {B W C C' : Nat → Int32} {m t c c' : Nat} {mn kd : Int32} (hm : m ≤ 20) (ht : t ≤ 7) (hB : ∀ q, q < m → ∀ i, bt (B q) i = true → i < t) (h0 : ∀ i, i < t → F 0 i = kB B m i) (h2 : ∀ i, i < t → F 2 i = W i) (hk : kd = lft B 0 m) (h : Ch5 B W m t mn C c) (hz : lft B (setC C c) m = 0) (h' : ChC F mn t kd C' c') : c' = c ∧ ∀ i, i < c → C' i = C i := by
  obtain ⟨a1, a2, a3, a4⟩ := h'
  have hc := ch5_le hm ht hB h
  have L := left_eq hm ht h0 h2 hk h
  have e : c' = c := by
    rcases Nat.lt_trichotomy c' c with q | q | q
    · have nz := (h c' q).1
      rw [← (L c' (by omega)).1] at nz
      rcases a2 with a2 | a2
      · omega
      · exact absurd a2 nz
    · exact q
    · exact absurd ((L c (Nat.le_refl _)).1.trans hz) (a3 c q)
  subst e
  exact ⟨rfl, fun i hi => by rw [a4 i hi, (L c' (Nat.le_refl _)).2 i hi]⟩
theorem op2_choose (p0 p1 : Int32) (f : FF) (v : VV) (g : FF) (u : VV) (h : Rel0 f v g u) : Q_X4_choose p0 p1 f v (fun r f1 v1 => Q_X5_choose p0 p1 g u (fun r' g1 u1 => r = r' ∧ Rel0 f1 v1 g1 u1)) := by
  obtain ⟨n, t, P1, P2, P3, P4, P5⟩ := h.2.1
  have hn := P1.1
  have ht := P1.2.1
  have ru : ∀ p : Int32, (10 ≤ p ∧ p ≤ 16) → ∃ k, k < 7 ∧ p - 10 = nI k := by
    rintro p ⟨a, b⟩
    obtain ⟨k, rfl, h1, h2⟩ := rngI (a := 10) (b := 16) (by omega) a b (by omega)
    exact ⟨k - 10, by omega, by rw [show (10 : Int32) = nI 10 from rfl, nI_sub h1]⟩
  have fin : ∀ (F : FF) (c : Nat) (C : Nat → Int32) (r : Int32) (f1 : FF) (v1 : VV), FC f v f1 v1 → (∀ i, i < t → F 0 i = bs (kt' (sb f 5) n i) (4 * n)) → (∀ i, i < t → F 2 i = wgt (sb f 5 3 i) (sb f 5 4 i)) → ChC F p0 t (bs (fun q => (List.range t).any (fun i => kt' (sb f 5) n i q)) (4 * n)) C c →
      (p1 < 10 → p1 = 0 → r = setC C c) → (p1 < 10 → ¬ p1 = 0 → r = sumW (fun i => wgt (g 6 i) (g 7 i)) (setC C c) t) → (¬ p1 < 10 → nI c ≤ p1 - 10 → r = -9) → (¬ p1 < 10 → ¬ nI c ≤ p1 - 10 → r = C (p1 - 10).toNatClampNeg) →
      (0 ≤ p0 ∧ p0 ≤ 2) → n ≠ 0 → ((10 ≤ p1 ∧ p1 ≤ 16) ∨ (0 ≤ p1 ∧ p1 ≤ 1)) → Q_X5_choose p0 p1 g u (fun r' g1 u1 => r = r' ∧ Rel0 f1 v1 g1 u1) := by
    intro F c C r f1 v1 hc hF0 hF2 hC q1 q2 q3 q4 h0 e hp
    have body : Q_X5_findKillers g u (fun f_7 v_8 => Q_X5_findChoices p0 f_7 v_8 (fun r_9 f_10 v_11 => (p1 < (10 : Int32) → ((¬ p1 = 0 → Q_X5_weightOfSet r_9 f_10 v_11 (fun r_14 => (r = r_14 ∧ Rel0 f1 v1 f_10 v_11))) ∧ (p1 = 0 → (r = r_9 ∧ Rel0 f1 v1 f_10 v_11)))) ∧ (¬ p1 < (10 : Int32) → (((v_11 7) ≤ (p1 - (10 : Int32)) → (r = -9 ∧ Rel0 f1 v1 f_10 v_11)) ∧ (¬ (v_11 7) ≤ (p1 - (10 : Int32)) → (vp_in (p1 - (10 : Int32)) 7 ∧ (r = (f_10 15) (p1 - (10 : Int32)).toNatClampNeg ∧ Rel0 f1 v1 f_10 v_11))))))) := by
      refine q5_findKillers P2 (fun g' hs hB => ?_)
      have P2' : PI n t (sb g' 3) (sb u 2) := P2.rows (fun j hj => hs.pv j (by omega)) rfl rfl
      have hBt : ∀ q, q < 4 * n → ∀ i, bt (g' 13 q) i = true → i < t := fun q hq i hi => by rw [hB q hq] at hi; exact kls_bit ht hi
      refine q5_findChoices P2' rfl hBt (fun c' g2 u2 a1 a2 a3 a4 a5 a6 => ?_)
      have P2'' : PI n t (sb g2 3) (sb u2 2) := P2'.rows (fun j hj => a5 (3 + j) (by omega)) (a6 2 (by decide)) (a6 3 (by decide))
      have z : Rel0 f1 v1 g2 u2 := h.fr hc (hs.fe.tr ⟨fun j hj => a5 j (by omega), fun i hi => a6 i (by omega)⟩)
      have w6 : ∀ i, i < t → wgt (g 6 i) (g 7 i) = wgt (g' 6 i) (g' 7 i) := fun i _ => by rw [hs 6 (by decide) (by decide), hs 7 (by decide) (by decide)]
      have hkd : bs (fun q => (List.range t).any (fun i => kt' (sb f 5) n i q)) (4 * n) = lft (g' 13) 0 (4 * n) := by
        unfold lft
        refine bs_cong (fun q hq => ?_)
        have e0 : (g' 13 q &&& 0) = 0 := by
          apply b_ext; intro i hi; rw [b_and, b_0, Bool.and_false]
        rw [any_kls P4 ht hq, hB q hq]
        rw [hB q hq] at e0
        by_cases c : kls g n t q = 0
        · rw [decide_eq_false (not_not_intro c), decide_eq_false (fun z => z.1 c)]
        · rw [decide_eq_true c, decide_eq_true ⟨c, e0⟩]
      obtain ⟨ecc, eC⟩ := ch_eq (by omega) ht hBt (fun i hi => (hF0 i hi).trans (kB_eq P4 hn ht hi hB)) (fun i hi => ((hF2 i hi).trans (ag_wgt P4 hi)).trans (w6 i hi)) hkd a3 a2 hC
      subst ecc
      have eS : setC C c = setC (g2 15) c := setC_cong eC
      rw [eS] at q1 q2
      refine ⟨fun c1 => ⟨fun c2 => q5_weightOfSet P2'' ⟨?_, z⟩, fun c2 => ⟨q1 c1 c2, z⟩⟩, fun c1 => ⟨fun c2 => ⟨q3 c1 (by rw [← a4]; exact c2), z⟩, fun c2 => ?_⟩⟩
      · rw [q2 c1 c2]
        refine sumW_cong _ (fun i hi => ?_)
        rw [w6 i hi, a5 6 (by decide), a5 7 (by decide)]
      · rcases hp with hp | hp
        · obtain ⟨k, hk, ek⟩ := ru p1 hp
          have q4 := q4 c1 (by rw [← a4]; exact c2)
          rw [a4, ek, le_nI (by omega) (by omega)] at c2
          rw [ek, nI_clamp (by omega)] at q4 ⊢
          exact ⟨vi_nI hk (by omega), by rw [q4, eC k (by omega)], z⟩
        · exact absurd (Int32.lt_of_le_of_lt hp.2 (by decide)) c1
    have nz : ¬ u 2 = 0 := fun c => e ((n0 P2.1 P2.2.2.1).mp c)
    refine q5_within1 h0.1 h0.2 (yes1 (q5_within (fun a b => yes1' ⟨fun _ => body, fun c => absurd c nz⟩) (fun a => no0' ?_)))
    rcases hp with hp | hp
    · exact q5_within1 hp.1 hp.2 (yes1' ⟨fun _ => body, fun c => absurd c nz⟩)
    · exact absurd hp a
  have out2 : (¬ (0 ≤ p0 ∧ p0 ≤ 2)) → Q_X5_choose p0 p1 g u (fun r' g1 u1 => -2 = r' ∧ Rel0 f v g1 u1) := fun hno => q5_within0 hno (no0 ⟨rfl, h⟩)
  have emp : (0 ≤ p0 ∧ p0 ≤ 2) → n = 0 → ((10 ≤ p1 ∧ p1 ≤ 16) ∨ (0 ≤ p1 ∧ p1 ≤ 1)) → Q_X5_choose p0 p1 g u (fun r' g1 u1 => -3 = r' ∧ Rel0 f v g1 u1) := by
    intro h0 e hp
    have nz : u 2 = 0 := (n0 P2.1 P2.2.2.1).mpr e
    refine q5_within1 h0.1 h0.2 (yes1 (q5_within (fun a b => yes1' ⟨fun c => absurd nz c, fun _ => ⟨rfl, h⟩⟩) (fun a => no0' ?_)))
    rcases hp with hp | hp
    · exact q5_within1 hp.1 hp.2 (yes1' ⟨fun c => absurd nz c, fun _ => ⟨rfl, h⟩⟩)
    · exact absurd hp a
  have main : ∀ r1 : Int32, (0 ≤ p0 ∧ p0 ≤ 2) → n ≠ 0 → ((r1 = 1 ∧ (10 ≤ p1 ∧ p1 ≤ 16)) ∨ (r1 = 0 ∧ (0 ≤ p1 ∧ p1 ≤ 1))) → Q_X4_killsNow f v (fun f_8 v_9 => Q_X0_chooseTests p0 (sb f_8 33) (sb v_9 19) (fun r_10 f_11 v_12 => ∀ f_13 : FF, f_13 = mg f_8 33 4 f_11 → ∀ v_14 : VV, v_14 = mg v_9 19 3 v_12 → ((r1 = 0 → Q_X0_chosenSet r_10 (sb f_13 33) (sb v_14 19) (fun r_16 => (¬ p1 = 0 → Q_X0_weightOf r_16 (sb f_13 33) (sb v_14 19) (fun r_18 => Q_X5_choose p0 p1 g u (fun r' g1 u1 => r_18 = r' ∧ Rel0 f_13 v_14 g1 u1))) ∧ (p1 = 0 → Q_X5_choose p0 p1 g u (fun r' g1 u1 => r_16 = r' ∧ Rel0 f_13 v_14 g1 u1)))) ∧ (¬ r1 = 0 → ((r_10 ≤ (p1 - (10 : Int32)) → Q_X5_choose p0 p1 g u (fun r' g1 u1 => -9 = r' ∧ Rel0 f_13 v_14 g1 u1)) ∧ (¬ r_10 ≤ (p1 - (10 : Int32)) → (vp_in (p1 - (10 : Int32)) 7 ∧ Q_X5_choose p0 p1 g u (fun r' g1 u1 => (f_13 36) (p1 - (10 : Int32)).toNatClampNeg = r' ∧ Rel0 f_13 v_14 g1 u1)))))))) := by
    intro r1 h0 e hp
    refine q_killsNow P1 (fun f' v' hc hK => q_chooseTests hK.1 (fun c f11 hct b1 b2 hf3 b3 f13 e13 v14 e14 => ?_))
    rw [mg_sb] at e14
    subst e14
    have hc3 : FC f v f13 v14 := hc.tr ⟨fun j hj => by rw [e13, mg_out (by omega)], fun _ _ => rfl⟩
    have r36 : f13 36 = f11 3 := by rw [e13, show 36 = 33 + 3 from rfl, mg_at (by decide)]
    have r35 : ∀ i, i < t → f13 35 i = wgt (g 6 i) (g 7 i) := fun i hi => by
      rw [e13, show 35 = 33 + 2 from rfl, mg_at (by decide), hf3 2 (by decide)]
      exact (hK.2.2.1 i hi).trans (ag_wgt P4 hi)
    have hch : ChC (sb f' 33) p0 t (bs (fun q => (List.range t).any (fun i => kt' (sb f 5) n i q)) (4 * n)) (f13 36) c := by
      rw [← hK.2.2.2.2, r36]
      exact ⟨hct, b1, b2, b3⟩
    have pp : (10 ≤ p1 ∧ p1 ≤ 16) ∨ (0 ≤ p1 ∧ p1 ≤ 1) := hp.elim (fun z => Or.inl z.2) (fun z => Or.inr z.2)
    have l10 : r1 = 0 → p1 < 10 := fun z => by
      rcases hp with hp | hp
      · rw [hp.1] at z; exact absurd z (by decide)
      · exact Int32.lt_of_le_of_lt hp.2.2 (by decide)
    have g10 : ¬ r1 = 0 → ¬ p1 < 10 := fun z c => by
      rcases hp with hp | hp
      · exact absurd (Int32.lt_of_lt_of_le c hp.2.1) Int32.lt_irrefl
      · exact z hp.1
    refine ⟨fun c1 => q_chosenSet (by omega) ⟨fun c2 => q_weightOf hK.1 (fin _ c (f13 36) _ f13 v14 hc3 hK.2.1 hK.2.2.1 hch (fun _ z => absurd z c2) (fun _ _ => sumW_cong _ r35) (fun z => absurd (l10 c1) z) (fun z => absurd (l10 c1) z) h0 e pp), fun c2 => fin _ c (f13 36) _ f13 v14 hc3 hK.2.1 hK.2.2.1 hch (fun _ _ => rfl) (fun _ z => absurd c2 z) (fun z => absurd (l10 c1) z) (fun z => absurd (l10 c1) z) h0 e pp⟩, fun c1 => ⟨fun c2 => fin _ c (f13 36) _ f13 v14 hc3 hK.2.1 hK.2.2.1 hch (fun z => absurd z (g10 c1)) (fun z => absurd z (g10 c1)) (fun _ _ => rfl) (fun _ z => absurd c2 z) h0 e pp, fun c2 => ⟨?_, fin _ c (f13 36) _ f13 v14 hc3 hK.2.1 hK.2.2.1 hch (fun z => absurd z (g10 c1)) (fun z => absurd z (g10 c1)) (fun _ z => absurd z c2) (fun _ _ => rfl) h0 e pp⟩⟩⟩
    rcases hp with hp | hp
    · obtain ⟨k, hk, ek⟩ := ru p1 hp.2
      rw [ek]; exact vi_nI hk (by omega)
    · exact absurd hp.1 c1
  refine q_isWithin (fun a b => ?_) (fun a => ?_)
  · refine q_isWithin (fun a' b' => yes1 (yes1' ?_)) (fun a' => no0 (out2 a'))
    exact q_isEmpty P1 (fun e => yes1 (emp ⟨a', b'⟩ e (Or.inl ⟨a, b⟩))) (fun e => no0 (main 1 ⟨a', b'⟩ e (Or.inl ⟨rfl, a, b⟩)))
  · refine q_isWithin (fun a' b' => yes1 (no0' ?_)) (fun a' => no0 (out2 a'))
    refine q_isWithin (fun a2 b2 => yes1' ?_) (fun a2 => no0' (q5_within1 a' b' (yes1 (q5_within0 a2 (no0' (q5_within0 a (no0' ⟨rfl, h⟩)))))))
    exact q_isEmpty P1 (fun e => yes1 (emp ⟨a', b'⟩ e (Or.inr ⟨a2, b2⟩))) (fun e => no0 (main 0 ⟨a', b'⟩ e (Or.inr ⟨rfl, a2, b2⟩)))
/-! ===== a DAY: the answers ===== -/
theorem ag_iff {n t : Nat} {p q : FF} : Agree n t p q ↔ ∀ r, r < 7 → ∀ j, j < (if r < 3 then n else t) → p r j = q r j := by
  constructor
  · intro h r hr j hj
    have hr : r = 0 ∨ r = 1 ∨ r = 2 ∨ r = 3 ∨ r = 4 ∨ r = 5 ∨ r = 6 := by omega
    rcases hr with rfl | rfl | rfl | rfl | rfl | rfl | rfl
    · rw [if_pos (by decide)] at hj; exact (h.1 j hj).1
    · rw [if_pos (by decide)] at hj; exact (h.1 j hj).2.1
    · rw [if_pos (by decide)] at hj; exact (h.1 j hj).2.2
    · rw [if_neg (by decide)] at hj; exact (h.2 j hj).1
    · rw [if_neg (by decide)] at hj; exact (h.2 j hj).2.1
    · rw [if_neg (by decide)] at hj; exact (h.2 j hj).2.2.1
    · rw [if_neg (by decide)] at hj; exact (h.2 j hj).2.2.2
  · intro h
    have a : ∀ r, r < 3 → ∀ k, k < n → p r k = q r k := fun r hr k hk => h r (by omega) k (by rw [if_pos hr]; exact hk)
    have b : ∀ r, ¬ r < 3 → r < 7 → ∀ k, k < t → p r k = q r k := fun r hr hr2 k hk => h r hr2 k (by rw [if_neg hr]; exact hk)
    exact ⟨fun k hk => ⟨a 0 (by decide) k hk, a 1 (by decide) k hk, a 2 (by decide) k hk⟩, fun k hk => ⟨b 3 (by decide) (by decide) k hk, b 4 (by decide) (by decide) k hk, b 5 (by decide) (by decide) k hk, b 6 (by decide) (by decide) k hk⟩⟩
theorem ag_tr {n t : Nat} {p q s : FF} (h : Agree n t p q) (h' : Agree n t q s) : Agree n t p s := ag_iff.mpr (fun r hr j hj => (ag_iff.mp h r hr j hj).trans (ag_iff.mp h' r hr j hj))
theorem ag_fu {n t r : Nat} {p q : FF} {X Y : Nat → Int32} (h : Agree n t p q) (hX : ∀ j, j < (if r < 3 then n else t) → X j = Y j) : Agree n t (fu p r X) (fu q r Y) := by
  refine ag_iff.mpr (fun r' hr' j hj => ?_)
  by_cases e : r' = r
  · subst e
    rw [fu_eq, fu_eq]; exact hX j hj
  · rw [fu_ne e, fu_ne e]; exact ag_iff.mp h r' hr' j hj
theorem actV_ag {n t k : Nat} {x : Int32} {p q : FF} (h : Agree n t p q) : Agree n t (actV k x p) (actV k x q) := by
  have h' := ag_iff.mp h
  unfold actV
  split
  · exact ag_fu h (upd_ag (h' 0 (by decide)))
  · split
    · exact ag_fu h (upd_ag (h' 4 (by decide)))
    · exact ag_fu (ag_fu h (upd_ag (h' 5 (by decide)))) (upd_ag (h' 6 (by decide)))
theorem goV_ag {n t : Nat} {c c' : Nat → Int32} {p q : FF} (h : Agree n t p q) : ∀ i, (∀ j, j < 2 * i → c j = c' j) → Agree n t (goV c i p) (goV c' i q)
  | 0, _ => h
  | i + 1, hc => by
    have ih := goV_ag h i (fun j hj => hc j (by omega))
    rw [goV, goV, hc (2 * i + 1) (by omega), hc (2 * i) (by omega)]
    exact actV_ag ih
theorem VD.ag {n t : Nat} {p q : FF} (h : VD t q) (hA : Agree n t p q) : VD t p := fun j hj => by
  rw [(hA.2 j hj).1, (hA.2 j hj).2.1]; exact h j hj
theorem vd_act {t k : Nat} {x : Int32} {p : FF} (h : VD t p) (hx : 10 ≤ k → k < 20 → ∃ τ, τ < 10 ∧ x = nI τ) : VD t (actV k x p) := by
  unfold actV
  split
  · exact h.of (fu_ne (by decide)) (fu_ne (by decide))
  · rename_i c
    split
    · rename_i c2
      intro j hj
      refine ⟨?_, ?_⟩
      · rw [fu_ne (by decide)]; exact (h j hj).1
      · rw [fu_eq]
        by_cases e : j = k - 10
        · rw [e, upd_eq]; exact hx (by omega) c2
        · rw [upd_ne e]; exact (h j hj).2
    · refine h.of ?_ ?_ <;> rw [fu_ne (by decide), fu_ne (by decide)]
theorem vd_go {t : Nat} {c : Nat → Int32} {p : FF} (h : VD t p) : ∀ i, (∀ j, j < i → okP (c (2 * j)) (c (2 * j + 1))) → VD t (goV c i p)
  | 0, _ => h
  | i + 1, hp => by
    have ih := vd_go h i (fun j hj => hp j (by omega))
    rw [goV]
    obtain ⟨k, ek, hk⟩ := hp i (by omega)
    refine vd_act ih (fun a b => ?_)
    have e2 : (c (2 * i + 1)).toNatClampNeg = k := by rw [ek, nI_clamp (by omega)]
    rw [e2] at a b
    rcases hk with ⟨z, _⟩ | ⟨_, z⟩ | ⟨z, _⟩
    · omega
    · obtain ⟨τ, e, _, hτ⟩ := rngI (a := 1) (b := 9) (by omega) z.1 z.2 (by omega)
      exact ⟨τ, by omega, e⟩
    · omega
/-- what is told of a DAY, in the class's words -/
def tdC (p : FF) (n t : Nat) (w : Int32) : Int32 := if w = 0 then nI (fb_ct (fun q => (List.range t).any (fun i => kt' p n i q)) (4 * n)) else if w = 2 then nI (4 * n - fb_ct (anyK p n 100) (4 * n)) else if w = 3 then nI (fb_ct (least (fun q => bs (fun i => kt' p n i q) t) (4 * n)) (4 * n)) else cwC n t p
theorem tdC_td5 {n t : Nat} {p : FF} {g : FF} {w : Int32} (h : Agree n t p (sb g 3)) (hv : VD t p) (hn : n ≤ 5) (ht : t ≤ 7) : tdC p n t w = td5 g n t w := by
  unfold tdC td5
  rw [cwC_cw5 h hv hn ht, show fb_ct (fun q => (List.range t).any (fun i => kt' p n i q)) (4 * n) = fb_ct (fun q => decide (¬ kls g n t q = 0)) (4 * n) from fb_ct_cong (fun q hq => any_kls h ht hq), show fb_ct (least (fun q => bs (fun i => kt' p n i q) t) (4 * n)) (4 * n) = fb_ct (least (kls g n t) (4 * n)) (4 * n) from fb_ct_cong (fun q hq => least_cong (fun q hq => kls_eq h hq) hq), show 4 * n - fb_ct (anyK p n 100) (4 * n) = fb_ct (eqM (sb g 3) n) (4 * n) from by have := ue_ct h; omega]
section DD
variable {n t : Nat} {f : FF} {v : VV} {posf : Int32 → FF → VV → Prop}
theorem q_ofTrial2 {w : Int32} (hP : PI n t (sb f 14) (sb v 13)) (h1 : w < 10 → ∀ f' v', FB 14 f v f' v' → posf (tdC (sb f 14) n t w) f' v') (h2 : ¬ w < 10 → ∀ j, j < t → w - 10 = nI j → ∀ f' v', FB 14 f v f' v' → posf (out (sb f 14 0) (sb f 14 1) (sb f 14 2) (sb f 14 5 j) (sb f 14 6 j) n) f' v') (h3 : ¬ w < 10 → (∀ j, j < t → w - 10 ≠ nI j) → posf (-9) f v) : Q_X4_ofTrial w f v posf := by
  have hn := hP.1
  refine ⟨fun c => ⟨fun c2 => q_findAt (b := 14) (c := 13) (by decide) (by decide) hP (fun f' v' hF hK => ⟨fun c0 => q_bitCount ?_, fun c0 => ⟨fun c3 => q_countLeast hK.1 ?_, fun c3 => q_light hK (q_wS hK ?_)⟩⟩), fun c2 => q_mutants hP (q_unequalMutants hP (fun f' hf' => q_bitCount (fun f14 ef v15 ev => ?_)))⟩, fun c x ex => ?_⟩
  · have := h1 c f' v' hF
    unfold tdC at this
    rw [if_pos c0] at this
    rw [hK.2.2.2.2, pcnt_bs _ (by omega)]; exact this
  · have := h1 c f' v' hF
    unfold tdC at this
    rw [if_neg c0, if_neg c2, if_pos c3] at this
    rw [show fb_ct (least (sb f' 33 1) (4 * n)) (4 * n) = fb_ct (least (fun q => bs (fun i => kt' (sb f 14) n i q) t) (4 * n)) (4 * n) from fb_ct_cong (fun q hq => least_cong hK.2.2.2.1 hq)]; exact this
  · have := h1 c f' v' hF
    unfold tdC at this
    rw [if_neg c0, if_neg c2, if_neg c3] at this
    exact this
  · have := h1 c f14 v15 (back_fb hf' ef ev).1
    have le := fb_ct_le (anyK (sb f 14) n 100) (4 * n)
    unfold tdC at this
    rw [if_neg (by rw [c2]; decide), if_pos c2] at this
    rw [pcnt_bs _ (by omega), nI_sub le]; exact this
  · refine q_hasTest hP (fun j hj ej => yes1 ?_) (fun hne => no0 (h3 c (fun j hj z => hne j hj (ex.trans z))))
    rw [ej]
    exact q_runTest hP hj (fun f' hf' _ f10 ef v11 ev => h2 c j hj (ex.symm.trans ej) _ _ (back_fb (Sm.of7 hf') ef ev).1)
end DD
/-- what a DAY's answer must be -/
def DR (c : Nat → Int32) (q N T : Nat) (p : FF) (w r : Int32) : Prop :=
  (∀ i, i < q → (∀ j, j < i → okT N T (c (2 * j + 1)).toNatClampNeg = true) → okT N T (c (2 * i + 1)).toNatClampNeg = false → r = if w = 1 then nI i else -100 - nI i) ∧
  ((∀ j, j < q → okT N T (c (2 * j + 1)).toNatClampNeg = true) → (w = 1 → r = -9) ∧ (¬ w = 1 → ∃ P : FF, Agree N T P (goV c q p) ∧ (w < 10 → r = tdC P N T w) ∧ (¬ w < 10 → ∀ j, j < T → w - 10 = nI j → r = out (P 0) (P 1) (P 2) (P 5 j) (P 6 j) N) ∧ (¬ w < 10 → (∀ j, j < T → w - 10 ≠ nI j) → r = -9)))
theorem DR.bad {c : Nat → Int32} {q N T : Nat} {p : FF} {w r : Int32} {i : Nat} (hi : i < q) (h1 : ∀ j, j < i → okT N T (c (2 * j + 1)).toNatClampNeg = true) (h2 : okT N T (c (2 * i + 1)).toNatClampNeg = false) (hr : r = if w = 1 then nI i else -100 - nI i) : DR c q N T p w r := by
  refine ⟨fun i' hi' a b => ?_, fun a => ?_⟩
  · have : i' = i := by
      rcases Nat.lt_trichotomy i' i with z | z | z
      · rw [h1 i' z] at b; exact absurd b (by decide)
      · exact z
      · rw [a i z] at h2; exact absurd h2 (by decide)
    rw [this]; exact hr
  · rw [a i hi] at h2; exact absurd h2 (by decide)
theorem no_ten {p : Int32} {j : Nat} (hj : j < 7) (hp : (0 ≤ p ∧ p ≤ 4) ∨ (10 ≤ p ∧ p ≤ 16)) (e : p - 10 = nI j) : ¬ p < 10 := by
  intro c
  rcases hp with hp | hp
  · obtain ⟨w, rfl, _, hw⟩ := rngI (a := 0) (b := 4) (by omega) hp.1 hp.2 (by omega)
    have := (show ∀ w, w < 5 → ∀ j, j < 7 → ¬ nI w - 10 = nI j by decide +kernel) w (by omega) j hj
    exact this e
  · exact absurd (Int32.lt_of_lt_of_le c hp.1) Int32.lt_irrefl
theorem op2_day (p0 p1 p2 p3 p4 : Int32) (f : FF) (v : VV) (g : FF) (u : VV) (h : Rel0 f v g u) : Q_X4_day p0 p1 p2 p3 p4 f v (fun r f1 v1 => Q_X5_day p0 p1 p2 p3 p4 g u (fun r' g1 u1 => r = r' ∧ Rel0 f1 v1 g1 u1)) := by
  intro v1 ev1
  have h0 := h.fault 0
  rw [← ev1] at h0
  refine q_isSheet (fun k hk ek => yes1' ?_) (fun hk => no0' (fun u1 eu1 => q5_isSheet0 hk (no0' ⟨rfl, by rw [eu1]; exact h0⟩)))
  subst ek
  have vk : vp_in (nI k) 4 := vi_nI (by omega) (by omega)
  refine q_isWithin (fun a b => yes1 ?_) (fun a => no0 (fun u1 eu1 => q5_isSheet1 hk (yes1' (q5_isSort0 a (no0 ⟨rfl, by rw [eu1]; exact h0⟩)))))
  refine q_isWithin (fun c d => yes1 ?_) (fun c => no0 (fun u1 eu1 => q5_isSheet1 hk (yes1' (q5_isSort1 a b (yes1 (q5_within0 c (no0 ⟨rfl, by rw [eu1]; exact h0⟩)))))))
  have main : ((0 ≤ p4 ∧ p4 ≤ 4) ∨ (10 ≤ p4 ∧ p4 ≤ 16)) → (vp_in (nI k) 4 ∧ (Q_X2_faultAs p1 (sb f (1 + k)) (sb v1 (3 + 2 * k)) (fun r_11 => (((¬ r_11 = 0 → (((r_11 = 0 → (Q_X1_isEmpty  (sb f 5) (sb v1 11) (fun r_14 => (((r_14 = 0 → (Q_X4_areActs p2 p3 (sb f (1 + k)) (sb v1 (3 + 2 * k)) (fun r_17 => (((¬ r_17 = 0 → (Q_X4_tryActs k p2 p3 f v1 (fun r_20 f_21 v_22 => (((¬ p4 = (1 : Int32) → (((¬ r_20 = (-9 : Int32) → (Q_X5_day (nI k) p1 p2 p3 p4 g u (fun r' g1 u1 => (-100 : Int32) - r_20 = r' ∧ Rel0 f_21 v_22 g1 u1))) ∧ (r_20 = (-9 : Int32) → (Q_X4_ofTrial p4 f_21 v_22 (fun r_25 f_26 v_27 => (Q_X5_day (nI k) p1 p2 p3 p4 g u (fun r' g1 u1 => r_25 = r' ∧ Rel0 f_26 v_27 g1 u1)))))))) ∧ (p4 = (1 : Int32) → (Q_X5_day (nI k) p1 p2 p3 p4 g u (fun r' g1 u1 => r_20 = r' ∧ Rel0 f_21 v_22 g1 u1)))))))) ∧ (r_17 = 0 → (Q_X5_day (nI k) p1 p2 p3 p4 g u (fun r' g1 u1 => -2 = r' ∧ Rel0 f v1 g1 u1)))))))) ∧ (¬ r_14 = 0 → (Q_X5_day (nI k) p1 p2 p3 p4 g u (fun r' g1 u1 => -3 = r' ∧ Rel0 f v1 g1 u1)))))))) ∧ (¬ r_11 = 0 → (Q_X4_faulted r_11 f v1 (fun r_28 f_29 v_30 => (Q_X5_day (nI k) p1 p2 p3 p4 g u (fun r' g1 u1 => r_28 = r' ∧ Rel0 f_29 v_30 g1 u1)))))))) ∧ (r_11 = 0 → (Q_X2_hasCells p2 ((2 : Int32) * p3) (sb f (1 + k)) (sb v1 (3 + 2 * k)) (fun r_31 => (((¬ r_31 = 0 → (((r_11 = 0 → (Q_X1_isEmpty  (sb f 5) (sb v1 11) (fun r_34 => (((r_34 = 0 → (Q_X4_areActs p2 p3 (sb f (1 + k)) (sb v1 (3 + 2 * k)) (fun r_37 => (((¬ r_37 = 0 → (Q_X4_tryActs k p2 p3 f v1 (fun r_40 f_41 v_42 => (((¬ p4 = (1 : Int32) → (((¬ r_40 = (-9 : Int32) → (Q_X5_day (nI k) p1 p2 p3 p4 g u (fun r' g1 u1 => (-100 : Int32) - r_40 = r' ∧ Rel0 f_41 v_42 g1 u1))) ∧ (r_40 = (-9 : Int32) → (Q_X4_ofTrial p4 f_41 v_42 (fun r_45 f_46 v_47 => (Q_X5_day (nI k) p1 p2 p3 p4 g u (fun r' g1 u1 => r_45 = r' ∧ Rel0 f_46 v_47 g1 u1)))))))) ∧ (p4 = (1 : Int32) → (Q_X5_day (nI k) p1 p2 p3 p4 g u (fun r' g1 u1 => r_40 = r' ∧ Rel0 f_41 v_42 g1 u1)))))))) ∧ (r_37 = 0 → (Q_X5_day (nI k) p1 p2 p3 p4 g u (fun r' g1 u1 => -2 = r' ∧ Rel0 f v1 g1 u1)))))))) ∧ (¬ r_34 = 0 → (Q_X5_day (nI k) p1 p2 p3 p4 g u (fun r' g1 u1 => -3 = r' ∧ Rel0 f v1 g1 u1)))))))) ∧ (¬ r_11 = 0 → (Q_X4_faulted r_11 f v1 (fun r_48 f_49 v_50 => (Q_X5_day (nI k) p1 p2 p3 p4 g u (fun r' g1 u1 => r_48 = r' ∧ Rel0 f_49 v_50 g1 u1)))))))) ∧ (r_31 = 0 → (Q_X4_faulted (3 : Int32) f v1 (fun r_51 f_52 v_53 => (Q_X5_day (nI k) p1 p2 p3 p4 g u (fun r' g1 u1 => r_51 = r' ∧ Rel0 f_52 v_53 g1 u1))))))))))))))) := by
    intro hp
    refine ⟨vk, ?_⟩
    obtain ⟨q, eq, _, hq⟩ := rngI (a := 0) (b := 20) (by omega) c d (by omega)
    subst eq
    rw [show (2 : Int32) * nI q = nI (2 * q) from pk_mul 2 q]
    rcases h0.1 k hk with ⟨n1, n2⟩ | ⟨l, m, hl, hm, a3, a4, a5, a6, a7⟩
    · refine q_faultAs (fun e => ⟨fun _ => ⟨fun z => absurd z (by decide), fun _ v2 ev2 => ?_⟩, fun z => absurd z (by decide)⟩) (fun e => absurd n1 e) (fun e => absurd n1 e)
      exact q5_day1 hk a b c d hp (q5_against1 hk n2 ⟨fun z => absurd z (by decide), fun _ u2 eu2 => ⟨rfl, by rw [ev2, eu2]; exact h0.fault 1⟩⟩)
    have c1 : sb v1 (3 + 2 * k) 1 = nI m := by rw [sb_add, show 3 + 2 * k + 1 = 4 + 2 * k by omega]; exact a5
    have e0 : sb v1 (3 + 2 * k) 0 = nI l := a3
    refine q_faultAs (fun e => absurd (a3.symm.trans e) (l_m1 hl)) (fun _ e => ⟨fun _ => ⟨fun z => absurd z (by decide), fun _ v2 ev2 => ?_⟩, fun z => absurd z (by decide)⟩) (fun _ e => ⟨fun z => absurd rfl z, fun _ => ?_⟩)
    · rw [e0] at e
      exact q5_day1 hk a b c d hp (q5_against2 hk hl a4 e ⟨fun z => absurd z (by decide), fun _ u2 eu2 => ⟨rfl, by rw [ev2, eu2]; exact h0.fault 2⟩⟩)
    rw [e0] at e
    have hn0 : (0 : Int32) ≤ 2 * nI q := by rw [show (2 : Int32) * nI q = nI (2 * q) from pk_mul 2 q]; exact (le_nI (a := 0) (by omega) (by omega)).mpr (by omega)
    have e2q : (2 : Int32) * nI q = nI (2 * q) := pk_mul 2 q
    refine q_hasCells hm c1 (fun i n hin ei en => yes1' ⟨fun _ => ?_, fun z => absurd rfl z⟩) (fun hno => no0' (fun v2 ev2 => ?_))
    rotate_left
    · refine q5_day1 hk a b c d hp (q5_against03 hk hl hm a4 a6 e hn0 (fun z => absurd ?_ hno) (fun _ => ⟨fun z => absurd z (by decide), fun _ u2 eu2 => ⟨rfl, by rw [ev2, eu2]; exact h0.fault 3⟩⟩))
      rw [← e2q]; exact z
    subst ei
    have hnq : n = 2 * q := ((nI_eq (by omega) (by omega)).mp en).symm
    subst hnq
    obtain ⟨N, T, P1, P2, P3, P4, P5⟩ := h0.2.1
    have hN := P1.1
    have hT := P1.2.1
    have ecs : ∀ j, j < 2 * q → cs (f (1 + k)) i j = cs (g 2) (60 * k + i) j := fun j hj => by
      have := a7 (i + j) (by omega)
      rw [← Nat.add_assoc] at this
      exact this
    have okE : (∀ j, j < q → okP (cs (f (1 + k)) i (2 * j)) (cs (f (1 + k)) i (2 * j + 1))) ↔ ∀ j, j < q → okP (cs (g 2) (60 * k + i) (2 * j)) (cs (g 2) (60 * k + i) (2 * j + 1)) :=
      ⟨fun z j hj => by rw [← ecs _ (by omega), ← ecs _ (by omega)]; exact z j hj, fun z j hj => by rw [ecs _ (by omega), ecs _ (by omega)]; exact z j hj⟩
    have fin : ∀ (r : Int32) (f1 : FF) (v2 : VV), FC f v1 f1 v2 → (N = 0 → r = -3) → (N ≠ 0 → (¬ ∀ j, j < q → okP (cs (f (1 + k)) i (2 * j)) (cs (f (1 + k)) i (2 * j + 1))) → r = -2) → (N ≠ 0 → (∀ j, j < q → okP (cs (f (1 + k)) i (2 * j)) (cs (f (1 + k)) i (2 * j + 1))) → DR (cs (f (1 + k)) i) q N T (sb f 5) p4 r) → Q_X5_day (nI k) p1 (nI i) (nI q) p4 g u (fun r' g1 u1 => r = r' ∧ Rel0 f1 v2 g1 u1) := by
      intro r f1 v2 hc z1 z2 z3
      refine q5_day1 hk a b c d hp (q5_against03 hk hl hm a4 a6 e hn0 (fun _ => no0 ⟨fun ne x ex => ?_, fun z => ⟨z1 ((n0 P2.1 P2.2.2.1).mp z), h0.fr hc FE.rf⟩⟩) (fun z => absurd ⟨i, 2 * q, hin, rfl, e2q⟩ z))
      rw [n60] at ex
      subst ex
      have N0 : 0 < N := Nat.pos_of_ne_zero (fun z => ne ((n0 P2.1 P2.2.2.1).mpr z))
      refine ⟨q + 1, q5_dl_loop (by omega) (fun hno _ => ⟨z2 (by omega) (fun z => hno (okE.mp z)), h0.fr hc FE.rf⟩) (fun hok _ => ?_) q 0 (by omega) (fun _ h => absurd h (by omega))⟩
      have hokf := okE.mpr hok
      have D := z3 (by omega) hokf
      refine q5_keep (fun g1 k1 k2 k3 => ?_)
      have P2' : PI N T (sb g1 3) (sb (fu u 0 0) 2) := P2.rows (fun j hj => k1 (3 + j) (by omega)) rfl rfl
      have r2 : g1 2 = g 2 := k1 2 (by decide)
      have P4' : Agree N T (sb f 5) (sb g1 3) := P4.of (fun _ _ => rfl) (fun r hr => k1 (3 + r) (by omega))
      have after : ∀ (g2 : FF) (i' : Nat) (r30 : Int32), Go5 (cs (g1 2) (60 * k + i)) i' g1 g2 →
          (∀ r33 : Int32, (p4 < 10 → r33 = td5 g2 N T p4) → (¬ p4 < 10 → ∀ j, j < T → p4 - 10 = nI j → r33 = out (g2 3) (g2 4) (g2 5) (g2 8 j) (g2 9 j) N) → (¬ p4 < 10 → (∀ j, j < T → p4 - 10 ≠ nI j) → r33 = -9) → (¬ p4 = 1 → (¬ r30 = -9 → r = -100 - r30) ∧ (r30 = -9 → r = r33)) ∧ (p4 = 1 → r = r30)) →
          Q_X5_tellDay p4 g2 (fu u 0 0) (fun r_33 f_34 v_35 => (Q_X5_putBack f_34 v_35 (fun f_37 v_38 => (((¬ p4 = (1 : Int32) → (((¬ r30 = (-9 : Int32) → (r = (-100 : Int32) - r30 ∧ Rel0 f1 v2 f_37 v_38)) ∧ (r30 = (-9 : Int32) → (r = r_33 ∧ Rel0 f1 v2 f_37 v_38))))) ∧ (p4 = (1 : Int32) → (r = r30 ∧ Rel0 f1 v2 f_37 v_38))))))) := by
        intro g2 i' r30 hG HR
        have PG : PI N T (sb g2 3) (sb (fu u 0 0) 2) := hG.pi P2'
        have pbk : ∀ (g3 : FF) (r33 : Int32), (∀ j, j ≠ 12 → j ≠ 13 → g3 j = g2 j) → ((¬ p4 = 1 → (¬ r30 = -9 → r = -100 - r30) ∧ (r30 = -9 → r = r33)) ∧ (p4 = 1 → r = r30)) → Q_X5_putBack g3 (fu u 0 0) (fun f_37 v_38 => (((¬ p4 = (1 : Int32) → (((¬ r30 = (-9 : Int32) → (r = (-100 : Int32) - r30 ∧ Rel0 f1 v2 f_37 v_38)) ∧ (r30 = (-9 : Int32) → (r = r33 ∧ Rel0 f1 v2 f_37 v_38))))) ∧ (p4 = (1 : Int32) → (r = r30 ∧ Rel0 f1 v2 f_37 v_38))))) := by
          intro g3 r33 hs HH
          refine q5_putBack (fun g4 b1 b2 b3 => ?_)
          have r14 : g3 14 = g1 14 := (hs 14 (by decide) (by decide)).trans (hG.2 14 (by omega))
          have z : Rel0 f1 v2 g4 (fu u 0 0) := by
            refine h0.pb hc (fun j hj j3 j7 j8 j9 => ?_) (fun i hi => by rw [b2 i hi, r14]; exact k2 i hi) (fun i hi => by rw [(b3 i hi).1, (b3 i hi).2.1, (b3 i hi).2.2, r14]; exact k3 i hi) (fun _ _ => rfl)
            rw [b1 j j3 j7 j8 j9, hs j (by omega) (by omega)]
            by_cases hj3 : 3 ≤ j ∧ j < 10
            · have hr : j - 3 = 1 ∨ j - 3 = 2 ∨ j - 3 = 3 := by omega
              have := hG.1 (j - 3) (by omega)
              rw [show 3 + (j - 3) = j by omega] at this
              rw [this]
              have G := goV_rest (c := cs (g1 2) (60 * k + i)) (f := sb g1 3) i'
              rcases hr with e | e | e
              · rw [e, G.1, sb_add, k1 _ (by omega)]; congr 1; omega
              · rw [e, G.2.1, sb_add, k1 _ (by omega)]; congr 1; omega
              · rw [e, G.2.2, sb_add, k1 _ (by omega)]; congr 1; omega
            · rw [hG.2 j (by omega), k1 j (by omega)]
          exact ⟨fun c1 => ⟨fun c2 => ⟨(HH.1 c1).1 c2, z⟩, fun c2 => ⟨(HH.1 c1).2 c2, z⟩⟩, fun c1 => ⟨HH.2 c1, z⟩⟩
        refine q5_tellDay PG N0 (fun w g3 hs => pbk g3 _ hs (HR _ (fun _ => rfl) (fun z => absurd w z) (fun z => absurd w z))) (fun j hj ej g3 hs => pbk g3 _ hs (HR _ (fun w => absurd w (no_ten (by omega) hp ej)) (fun _ j' hj' ej' => ?_) (fun _ z => absurd ej (z j hj)))) (fun w hne => pbk g2 _ (fun _ _ _ => rfl) (HR _ (fun z => absurd z w) (fun _ j hj ej => absurd ej (hne j hj)) (fun _ _ => rfl)))
        have : j = j' := (nI_eq (by omega) (by omega)).mp (ej.symm.trans ej')
        rw [this]
      refine q5_goDay P2' (by omega) (by rw [r2]; exact hok) (fun i' g2 hi' hall hbad hG => after g2 i' _ hG (fun r33 _ _ _ => ?_)) (fun g2 hall hG => after g2 q _ hG (fun r33 t1 t2 t3 => ?_))
      · rw [r2] at hall hbad
        have R := D.1 i' hi' (fun j hj => by rw [ecs _ (by omega)]; exact hall j hj) (by rw [ecs _ (by omega)]; exact hbad)
        refine ⟨fun c1 => ⟨fun _ => ?_, fun z => absurd z (n_9 i' (by omega))⟩, fun c1 => ?_⟩
        · rw [R, if_neg c1]
        · rw [R, if_pos c1]
      · rw [r2] at hall hG
        have R := D.2 (fun j hj => by rw [ecs _ (by omega)]; exact hall j hj)
        refine ⟨fun c1 => ⟨fun z => absurd rfl z, fun _ => ?_⟩, fun c1 => R.1 c1⟩
        obtain ⟨P, hA, y1, y2, y3⟩ := R.2 c1
        have HA : Agree N T (goV (cs (f (1 + k)) i) q (sb f 5)) (sb g2 3) := (goV_ag P4' q ecs).of (fun _ _ => rfl) (fun r hr => hG.1 r hr)
        have HP : Agree N T P (sb g2 3) := ag_tr hA HA
        have HV : VD T P := (vd_go P5 q hokf).ag hA
        by_cases w : p4 < 10
        · rw [y1 w, t1 w]; exact tdC_td5 HP HV hN hT
        · by_cases hx : ∃ j, j < T ∧ p4 - 10 = nI j
          · obtain ⟨j, hj, ej⟩ := hx
            have e5 : P 5 j = g2 8 j := (HP.2 j hj).2.2.1
            have e6 : P 6 j = g2 9 j := (HP.2 j hj).2.2.2
            rw [y2 w j hj ej, t2 w j hj ej, e5, e6]
            exact ag_out HP _ _
          · have hne : ∀ j, j < T → p4 - 10 ≠ nI j := fun j hj z => hx ⟨j, hj, z⟩
            rw [y3 w hne, t3 w hne]
    refine q_isEmpty P1 (fun e => yes1 (fin _ _ _ FC.rf (fun _ => rfl) (fun z => absurd e z) (fun z => absurd e z))) (fun ne => no0 ?_)
    refine q_areActs (by omega) (fun hno => no0' (fin _ _ _ FC.rf (fun z => absurd z ne) (fun _ _ => rfl) (fun _ z => absurd z hno))) (fun hok => yes1' ?_)
    refine q_trial P1 (fun f' v' hf hv hP hA => ⟨q + 1, ?_⟩)
    have fk : f' (1 + k) = f (1 + k) := hf _ (by omega)
    have hok' : ∀ i', i' < q → okP (cs (f' (1 + k)) i (2 * i')) (cs (f' (1 + k)) i (2 * i' + 1)) := by rw [fk]; exact hok
    have fc0 : FC f v1 f' v' := ⟨fun j hj => hf j (by omega), fun i hi => hv i (by omega) (by omega)⟩
    have fcG : ∀ (i' : Nat) (f2 : FF) (v2 : VV), GoC (cs (f' (1 + k)) i) i' f' v' f2 v2 → FC f v1 f2 v2 := fun i' f2 v2 hG => fc0.tr ⟨fun j hj => hG.2.1 j (by omega), fun i _ => hG.2.2 i⟩
    refine q_ta_loop hk hP (by omega) hok' (fun i' f2 v2 hi' hall hbad hG => ?_) (fun x f2 v2 hall hG => ?_) q 0 f' v' (by omega) (fun _ h => absurd h (by omega)) ⟨fun _ _ => rfl, fun _ _ => rfl, fun _ => rfl⟩
    · have F := fcG i' f2 v2 hG
      rw [fk] at hall hbad
      exact ⟨fun c1 => ⟨fun _ => fin _ _ _ F (fun z => absurd z ne) (fun _ z => absurd hok z) (fun _ _ => DR.bad hi' hall hbad (by rw [if_neg c1])), fun z => absurd z (n_9 i' (by omega))⟩, fun c1 => fin _ _ _ F (fun z => absurd z ne) (fun _ z => absurd hok z) (fun _ _ => DR.bad hi' hall hbad (by rw [if_pos c1]))⟩
    · have F := fcG q f2 v2 hG
      have PG : PI N T (sb f2 14) (sb v2 13) := hP.rows2 ((hG.1 1 (by decide)).trans (goV_rest q).1) ((hG.1 2 (by decide)).trans (goV_rest q).2.1) (hG.2.2 13) (hG.2.2 14)
      rw [fk] at hall hG
      have nb : ∀ i', i' < q → okT N T (cs (f (1 + k)) i (2 * i' + 1)).toNatClampNeg = false → False := fun i' hi' z => by
        rw [hall i' hi'] at z; exact absurd z (by decide)
      have HA : Agree N T (sb f2 14) (goV (cs (f (1 + k)) i) q (sb f 5)) := (goV_ag hA q (fun _ _ => rfl)).of (fun r hr => hG.1 r hr) (fun _ _ => rfl)
      refine ⟨fun c1 => ⟨fun z => absurd rfl z, fun _ => ?_⟩, fun c1 => fin _ _ _ F (fun z => absurd z ne) (fun _ z => absurd hok z) (fun _ _ => ⟨fun i' hi' _ z => (nb i' hi' z).elim, fun _ => ⟨fun _ => rfl, fun z => absurd c1 z⟩⟩)⟩
      refine q_ofTrial2 PG (fun w f3 v3 hF => fin _ _ _ (F.tr (hF.fc (by decide))) (fun z => absurd z ne) (fun _ z => absurd hok z) (fun _ _ => ⟨fun i' hi' _ z => (nb i' hi' z).elim, fun _ => ⟨fun z => absurd z c1, fun _ => ⟨_, HA, fun _ => rfl, fun z => absurd w z, fun z => absurd w z⟩⟩⟩)) (fun w j hj ej f3 v3 hF => fin _ _ _ (F.tr (hF.fc (by decide))) (fun z => absurd z ne) (fun _ z => absurd hok z) (fun _ _ => ⟨fun i' hi' _ z => (nb i' hi' z).elim, fun _ => ⟨fun z => absurd z c1, fun _ => ⟨_, HA, fun z => absurd z w, fun _ j' hj' ej' => ?_, fun _ z => absurd ej (z j hj)⟩⟩⟩)) (fun w hne => fin _ _ _ F (fun z => absurd z ne) (fun _ z => absurd hok z) (fun _ _ => ⟨fun i' hi' _ z => (nb i' hi' z).elim, fun _ => ⟨fun z => absurd z c1, fun _ => ⟨_, HA, fun z => absurd z w, fun _ j hj ej => absurd ej (hne j hj), fun _ _ => rfl⟩⟩⟩))
      have : j = j' := (nI_eq (by omega) (by omega)).mp (ej.symm.trans ej')
      rw [this]
  rw [nI_clamp (by omega)]
  refine q_isWithin (fun a' b' => yes1' (yes1' (main (Or.inl ⟨a', b'⟩)))) (fun n1 => no0' (q_isWithin (fun a' b' => yes1 (yes1' (main (Or.inr ⟨a', b'⟩)))) (fun n2 => no0 (no0' ?_))))
  intro u1 eu1
  exact q5_isSheet1 hk (yes1' (q5_isSort1 a b (yes1 (q5_within1 c d (yes1 (q5_within0 n1 (no0' (q5_within0 n2 (no0' ⟨rfl, by rw [eu1]; exact h0⟩)))))))))
