/-! ===== how many bits a small set has ===== -/
theorem land16 {a c : Nat} (b d : Nat) (ha : a < 16) (hc : c < 16) : (a + 16 * b) &&& (c + 16 * d) = (a &&& c) + 16 * (b &&& d) := by
  have e : ∀ a b : Nat, a + 16 * b = 2 ^ 4 * b + a := fun a b => by omega
  rw [e a b, e c d, e (a &&& c) (b &&& d)]
  have hac : a &&& c < 2 ^ 4 := Nat.lt_of_le_of_lt Nat.and_le_left ha
  apply Nat.eq_of_testBit_eq
  intro i
  rw [Nat.testBit_and, Nat.testBit_two_pow_mul_add _ ha, Nat.testBit_two_pow_mul_add _ hc, Nat.testBit_two_pow_mul_add _ hac]
  split
  · rw [Nat.testBit_and]
  · rw [Nat.testBit_and]
def v5 (a b c d e : Nat) : Nat := a + 16 * (b + 16 * (c + 16 * (d + 16 * e)))
theorem land5 {a b c d e : Nat} (m0 m1 m2 m3 m4 r M : Nat) (ha : a < 16) (hb : b < 16) (hc : c < 16) (hd : d < 16) (he : e < 16) (h0 : m0 < 16) (h1 : m1 < 16) (h2 : m2 < 16) (h3 : m3 < 16) (h4 : m4 < 16) (hM : M = m0 + 16 * (m1 + 16 * (m2 + 16 * (m3 + 16 * (m4 + 16 * r))))) : v5 a b c d e &&& M = v5 (a &&& m0) (b &&& m1) (c &&& m2) (d &&& m3) (e &&& m4) := by
  subst hM
  have z : e = e + 16 * 0 := rfl
  unfold v5
  rw [land16 _ _ ha h0, land16 _ _ hb h1, land16 _ _ hc h2, land16 _ _ hd h3]
  have := land16 (a := e) (c := m4) 0 r he h4
  rw [Nat.zero_and] at this
  rw [show e &&& (m4 + 16 * r) = e &&& m4 from this]
def p4n (n : Nat) : Nat := n - (n / 2 &&& 5)
def c4n (n : Nat) : Nat := n % 2 + n / 2 % 2 + n / 4 % 2 + n / 8 % 2
theorem p4n_1 : ∀ n, n < 16 → ∀ b, b < 2 → ((n / 2 + 8 * b) &&& 5) + p4n n = n ∧ p4n n < 16 := by decide +kernel
theorem p4n_2 : ∀ n, n < 16 → ∀ b, b < 4 → (p4n n &&& 3) + ((p4n n / 4 + 4 * b) &&& 3) = c4n n ∧ c4n n ≤ 4 := by decide +kernel
theorem and15 : ∀ n, n < 16 → n &&& 15 = n := by decide +kernel
def st1 (N : Nat) : Nat := N - ((N / 2 ^ 1) &&& 1431655765)
def st2 (N : Nat) : Nat := (N &&& 858993459) + ((N / 2 ^ 2) &&& 858993459)
def st3 (N : Nat) : Nat := (N + N / 2 ^ 4) &&& 252645135
def st4 (N : Nat) : Nat := N + N / 2 ^ 8
def st5 (N : Nat) : Nat := N + N / 2 ^ 16
theorem st1_5 {a b c d e : Nat} (ha : a < 16) (hb : b < 16) (hc : c < 16) (hd : d < 16) (he : e < 16) : st1 (v5 a b c d e) = v5 (p4n a) (p4n b) (p4n c) (p4n d) (p4n e) := by
  have e1 : v5 a b c d e / 2 ^ 1 = v5 (a / 2 + 8 * (b % 2)) (b / 2 + 8 * (c % 2)) (c / 2 + 8 * (d % 2)) (d / 2 + 8 * (e % 2)) (e / 2 + 8 * 0) := by unfold v5; omega
  have A := p4n_1 a ha (b % 2) (by omega)
  have B := p4n_1 b hb (c % 2) (by omega)
  have C := p4n_1 c hc (d % 2) (by omega)
  have D := p4n_1 d hd (e % 2) (by omega)
  have E := p4n_1 e he 0 (by omega)
  unfold st1
  rw [e1, land5 5 5 5 5 5 1365 1431655765 (by omega) (by omega) (by omega) (by omega) (by omega) (by omega) (by omega) (by omega) (by omega) (by omega) (by omega)]
  unfold v5
  omega
theorem st2_5 {a b c d e : Nat} (ha : a < 16) (hb : b < 16) (hc : c < 16) (hd : d < 16) (he : e < 16) : st2 (v5 (p4n a) (p4n b) (p4n c) (p4n d) (p4n e)) = v5 (c4n a) (c4n b) (c4n c) (c4n d) (c4n e) := by
  have pa := (p4n_1 a ha 0 (by omega)).2
  have pb := (p4n_1 b hb 0 (by omega)).2
  have pc := (p4n_1 c hc 0 (by omega)).2
  have pd := (p4n_1 d hd 0 (by omega)).2
  have pe := (p4n_1 e he 0 (by omega)).2
  have A := p4n_2 a ha (p4n b % 4) (by omega)
  have B := p4n_2 b hb (p4n c % 4) (by omega)
  have C := p4n_2 c hc (p4n d % 4) (by omega)
  have D := p4n_2 d hd (p4n e % 4) (by omega)
  have E := p4n_2 e he 0 (by omega)
  have e1 : v5 (p4n a) (p4n b) (p4n c) (p4n d) (p4n e) / 2 ^ 2 = v5 (p4n a / 4 + 4 * (p4n b % 4)) (p4n b / 4 + 4 * (p4n c % 4)) (p4n c / 4 + 4 * (p4n d % 4)) (p4n d / 4 + 4 * (p4n e % 4)) (p4n e / 4 + 4 * 0) := by unfold v5; omega
  unfold st2
  rw [e1, land5 3 3 3 3 3 819 858993459 pa pb pc pd pe (by omega) (by omega) (by omega) (by omega) (by omega) (by omega), land5 3 3 3 3 3 819 858993459 (by omega) (by omega) (by omega) (by omega) (by omega) (by omega) (by omega) (by omega) (by omega) (by omega) (by omega)]
  unfold v5
  omega
theorem st3_5 {a b c d e : Nat} (ha : a ≤ 4) (hb : b ≤ 4) (hc : c ≤ 4) (hd : d ≤ 4) (he : e ≤ 4) : st3 (v5 a b c d e) = v5 (a + b) 0 (c + d) 0 e := by
  have e1 : v5 a b c d e + v5 a b c d e / 2 ^ 4 = v5 (a + b) (b + c) (c + d) (d + e) e := by unfold v5; omega
  unfold st3
  rw [e1, land5 15 0 15 0 15 240 252645135 (by omega) (by omega) (by omega) (by omega) (by omega) (by omega) (by omega) (by omega) (by omega) (by omega) (by omega), and15 _ (by omega), and15 _ (by omega), and15 _ (by omega), Nat.and_zero, Nat.and_zero]
theorem st45 {a c e : Nat} (ha : a ≤ 8) (hc : c ≤ 8) (he : e ≤ 4) : st5 (st4 (v5 a 0 c 0 e)) % 2 ^ 6 = a + c + e := by
  have e4 : st4 (v5 a 0 c 0 e) = (a + c) + 256 * (c + e) + 65536 * e := by
    have : v5 a 0 c 0 e / 2 ^ 8 = c + 256 * e := by unfold v5; omega
    unfold st4; rw [this]; unfold v5; omega
  have e5 : st5 (st4 (v5 a 0 c 0 e)) = (a + c + e) + 64 * (4 * (c + e) + 1024 * e) := by
    have : st4 (v5 a 0 c 0 e) / 2 ^ 16 = e := by rw [e4]; omega
    unfold st5; rw [this, e4]; omega
  rw [e5]
  omega
theorem v5_st {a b c d e : Nat} (ha : a < 16) (hb : b < 16) (hc : c < 16) (hd : d < 16) (he : e < 16) : st5 (st4 (st3 (st2 (st1 (v5 a b c d e))))) % 2 ^ 6 = c4n a + c4n b + c4n c + c4n d + c4n e := by
  have A := (p4n_2 a ha 0 (by omega)).2
  have B := (p4n_2 b hb 0 (by omega)).2
  have C := (p4n_2 c hc 0 (by omega)).2
  have D := (p4n_2 d hd 0 (by omega)).2
  have E := (p4n_2 e he 0 (by omega)).2
  rw [st1_5 ha hb hc hd he, st2_5 ha hb hc hd he, st3_5 A B C D E, st45 (by omega) (by omega) E]
  omega
theorem nI_and {a b : Nat} (ha : a < 2 ^ 32) (hb : b < 2 ^ 32) : nI a &&& nI b = nI (a &&& b) := by
  apply Int32.toBitVec_inj.mp
  apply BitVec.eq_of_toNat_eq
  rw [Int32.toBitVec_and, BitVec.toNat_and, pk_tn ha, pk_tn hb, pk_tn (Nat.lt_of_le_of_lt Nat.and_le_left ha)]
theorem nI_or {a b : Nat} (ha : a < 2 ^ 32) (hb : b < 2 ^ 32) : nI a ||| nI b = nI (a ||| b) := by
  apply Int32.toBitVec_inj.mp
  apply BitVec.eq_of_toNat_eq
  rw [Int32.toBitVec_or, BitVec.toNat_or, pk_tn ha, pk_tn hb, pk_tn (Nat.or_lt_two_pow ha hb)]
def pc1 (p : Int32) : Int32 := p - ((p.toUInt32 >>> ((1 : Int32).toUInt32 &&& Int32.toUInt32 31)).toInt32 &&& 1431655765)
def pc2 (p : Int32) : Int32 := (p &&& 858993459) + ((p.toUInt32 >>> ((2 : Int32).toUInt32 &&& Int32.toUInt32 31)).toInt32 &&& 858993459)
def pc3 (p : Int32) : Int32 := (p + (p.toUInt32 >>> ((4 : Int32).toUInt32 &&& Int32.toUInt32 31)).toInt32) &&& 252645135
def pc4 (p : Int32) : Int32 := p + (p.toUInt32 >>> ((8 : Int32).toUInt32 &&& Int32.toUInt32 31)).toInt32
def pc5 (p : Int32) : Int32 := p + (p.toUInt32 >>> ((16 : Int32).toUInt32 &&& Int32.toUInt32 31)).toInt32
theorem pcnt_def (p : Int32) : pcnt p = pc5 (pc4 (pc3 (pc2 (pc1 p)))) &&& 63 := rfl
theorem pc1_n {N : Nat} (h : N < 2 ^ 32) : pc1 (nI N) = nI (st1 N) := by
  unfold pc1 st1
  have h2 : (N / 2 ^ 1) &&& 1431655765 ≤ N / 2 ^ 1 := Nat.and_le_left
  rw [pk_ushrN h 1 1 (by decide +kernel), show (1431655765 : Int32) = nI 1431655765 from rfl, nI_and (by omega) (by omega), nI_sub (by omega)]
theorem pc2_n {N : Nat} (h : N < 2 ^ 32) : pc2 (nI N) = nI (st2 N) := by
  unfold pc2 st2
  rw [pk_ushrN h 2 2 (by decide +kernel), show (858993459 : Int32) = nI 858993459 from rfl, nI_and (by omega) (by omega), nI_and (by omega) (by omega), nI_add]
theorem pc3_n {N : Nat} (h : N < 2 ^ 31) : pc3 (nI N) = nI (st3 N) := by
  unfold pc3 st3
  rw [pk_ushrN (by omega) 4 4 (by decide +kernel), show (252645135 : Int32) = nI 252645135 from rfl, nI_add, nI_and (by omega) (by omega)]
theorem pc4_n {N : Nat} (h : N < 2 ^ 32) : pc4 (nI N) = nI (st4 N) := by
  unfold pc4 st4
  rw [pk_ushrN h 8 8 (by decide +kernel), nI_add]
theorem pc5_n {N : Nat} (h : N < 2 ^ 32) : pc5 (nI N) = nI (st5 N) := by
  unfold pc5 st5
  rw [pk_ushrN h 16 16 (by decide +kernel), nI_add]
theorem pcnt_n {N : Nat} (h : N < 2 ^ 20) : pcnt (nI N) = nI (st5 (st4 (st3 (st2 (st1 N)))) % 2 ^ 6) := by
  have h1 : st1 N < 2 ^ 20 := by unfold st1; omega
  have h2 : st2 (st1 N) < 2 ^ 21 := by
    unfold st2
    have a : st1 N &&& 858993459 ≤ st1 N := Nat.and_le_left
    have b : (st1 N / 2 ^ 2) &&& 858993459 ≤ st1 N / 2 ^ 2 := Nat.and_le_left
    omega
  have h3 : st3 (st2 (st1 N)) < 2 ^ 22 := by
    unfold st3
    have a : (st2 (st1 N) + st2 (st1 N) / 2 ^ 4) &&& 252645135 ≤ st2 (st1 N) + st2 (st1 N) / 2 ^ 4 := Nat.and_le_left
    omega
  have h4 : st4 (st3 (st2 (st1 N))) < 2 ^ 23 := by unfold st4; omega
  have h5 : st5 (st4 (st3 (st2 (st1 N)))) < 2 ^ 24 := by unfold st5; omega
  rw [pcnt_def, pc1_n (by omega), pc2_n (by omega), pc3_n (by omega), pc4_n (by omega), pc5_n (by omega), pk_andN (by omega) 6 rfl]
/-- the number that a set's bits make -/
def bn (p : Nat → Bool) : Nat → Nat
  | 0 => 0
  | k + 1 => bn p k + (if p k then 1 else 0) * 2 ^ k
theorem bn_lt (p : Nat → Bool) : ∀ k, bn p k < 2 ^ k
  | 0 => (by decide : 0 < 2 ^ 0)
  | k + 1 => by
    have := bn_lt p k
    rw [bn, Nat.pow_succ]
    split <;> omega
theorem shl_n : ∀ k, k < 31 → (1 : Int32) <<< (nI k &&& 31) = nI (2 ^ k) := by decide +kernel
theorem bs_nI (p : Nat → Bool) : ∀ m, m ≤ 31 → bs p m = nI (bn p m)
  | 0, _ => rfl
  | k + 1, h => by
    have hb := bn_lt p k
    have h2 : 2 ^ k < 2 ^ 32 := Nat.pow_lt_pow_right (by omega) (by omega)
    rw [bs, bn, bs_nI p k (by omega)]
    by_cases hp : p k = true
    · rw [if_pos hp, if_pos hp, shl_n k (by omega), nI_or (by omega) h2, Nat.or_comm]
      have := Nat.two_pow_add_eq_or_of_lt hb 1
      rw [Nat.mul_one] at this
      rw [← this, Nat.one_mul, Nat.add_comm]
    · rw [if_neg hp, if_neg hp, or0, Nat.zero_mul, Nat.add_zero]
theorem bn20 (p : Nat → Bool) : bn p 20 = ((((((((((((((((((((0 + (if p 0 then 1 else 0) * 2 ^ 0) + (if p 1 then 1 else 0) * 2 ^ 1) + (if p 2 then 1 else 0) * 2 ^ 2) + (if p 3 then 1 else 0) * 2 ^ 3) + (if p 4 then 1 else 0) * 2 ^ 4) + (if p 5 then 1 else 0) * 2 ^ 5) + (if p 6 then 1 else 0) * 2 ^ 6) + (if p 7 then 1 else 0) * 2 ^ 7) + (if p 8 then 1 else 0) * 2 ^ 8) + (if p 9 then 1 else 0) * 2 ^ 9) + (if p 10 then 1 else 0) * 2 ^ 10) + (if p 11 then 1 else 0) * 2 ^ 11) + (if p 12 then 1 else 0) * 2 ^ 12) + (if p 13 then 1 else 0) * 2 ^ 13) + (if p 14 then 1 else 0) * 2 ^ 14) + (if p 15 then 1 else 0) * 2 ^ 15) + (if p 16 then 1 else 0) * 2 ^ 16) + (if p 17 then 1 else 0) * 2 ^ 17) + (if p 18 then 1 else 0) * 2 ^ 18) + (if p 19 then 1 else 0) * 2 ^ 19) := rfl
theorem ct20 (p : Nat → Bool) : fb_ct p 20 = ((((((((((((((((((((0 + (if p 0 then 1 else 0)) + (if p 1 then 1 else 0)) + (if p 2 then 1 else 0)) + (if p 3 then 1 else 0)) + (if p 4 then 1 else 0)) + (if p 5 then 1 else 0)) + (if p 6 then 1 else 0)) + (if p 7 then 1 else 0)) + (if p 8 then 1 else 0)) + (if p 9 then 1 else 0)) + (if p 10 then 1 else 0)) + (if p 11 then 1 else 0)) + (if p 12 then 1 else 0)) + (if p 13 then 1 else 0)) + (if p 14 then 1 else 0)) + (if p 15 then 1 else 0)) + (if p 16 then 1 else 0)) + (if p 17 then 1 else 0)) + (if p 18 then 1 else 0)) + (if p 19 then 1 else 0)) := rfl
theorem c4n_b : ∀ a, a < 2 → ∀ b, b < 2 → ∀ c, c < 2 → ∀ d, d < 2 → c4n (a + 2 * b + 4 * c + 8 * d) = a + b + c + d := by decide +kernel
theorem bit01 (b : Bool) : (if b then 1 else 0) < 2 := by cases b <;> decide
theorem pcnt_20 (p : Nat → Bool) : pcnt (bs p 20) = nI (fb_ct p 20) := by
  rw [bs_nI p 20 (by omega), pcnt_n (bn_lt p 20), bn20, ct20]
  have h0 := bit01 (p 0)
  have h1 := bit01 (p 1)
  have h2 := bit01 (p 2)
  have h3 := bit01 (p 3)
  have h4 := bit01 (p 4)
  have h5 := bit01 (p 5)
  have h6 := bit01 (p 6)
  have h7 := bit01 (p 7)
  have h8 := bit01 (p 8)
  have h9 := bit01 (p 9)
  have h10 := bit01 (p 10)
  have h11 := bit01 (p 11)
  have h12 := bit01 (p 12)
  have h13 := bit01 (p 13)
  have h14 := bit01 (p 14)
  have h15 := bit01 (p 15)
  have h16 := bit01 (p 16)
  have h17 := bit01 (p 17)
  have h18 := bit01 (p 18)
  have h19 := bit01 (p 19)
  generalize (if p 0 then 1 else 0) = b0 at h0 ⊢
  generalize (if p 1 then 1 else 0) = b1 at h1 ⊢
  generalize (if p 2 then 1 else 0) = b2 at h2 ⊢
  generalize (if p 3 then 1 else 0) = b3 at h3 ⊢
  generalize (if p 4 then 1 else 0) = b4 at h4 ⊢
  generalize (if p 5 then 1 else 0) = b5 at h5 ⊢
  generalize (if p 6 then 1 else 0) = b6 at h6 ⊢
  generalize (if p 7 then 1 else 0) = b7 at h7 ⊢
  generalize (if p 8 then 1 else 0) = b8 at h8 ⊢
  generalize (if p 9 then 1 else 0) = b9 at h9 ⊢
  generalize (if p 10 then 1 else 0) = b10 at h10 ⊢
  generalize (if p 11 then 1 else 0) = b11 at h11 ⊢
  generalize (if p 12 then 1 else 0) = b12 at h12 ⊢
  generalize (if p 13 then 1 else 0) = b13 at h13 ⊢
  generalize (if p 14 then 1 else 0) = b14 at h14 ⊢
  generalize (if p 15 then 1 else 0) = b15 at h15 ⊢
  generalize (if p 16 then 1 else 0) = b16 at h16 ⊢
  generalize (if p 17 then 1 else 0) = b17 at h17 ⊢
  generalize (if p 18 then 1 else 0) = b18 at h18 ⊢
  generalize (if p 19 then 1 else 0) = b19 at h19 ⊢
  rw [show ((((((((((((((((((((0 + b0 * 2 ^ 0) + b1 * 2 ^ 1) + b2 * 2 ^ 2) + b3 * 2 ^ 3) + b4 * 2 ^ 4) + b5 * 2 ^ 5) + b6 * 2 ^ 6) + b7 * 2 ^ 7) + b8 * 2 ^ 8) + b9 * 2 ^ 9) + b10 * 2 ^ 10) + b11 * 2 ^ 11) + b12 * 2 ^ 12) + b13 * 2 ^ 13) + b14 * 2 ^ 14) + b15 * 2 ^ 15) + b16 * 2 ^ 16) + b17 * 2 ^ 17) + b18 * 2 ^ 18) + b19 * 2 ^ 19) = v5 (b0 + 2 * b1 + 4 * b2 + 8 * b3) (b4 + 2 * b5 + 4 * b6 + 8 * b7) (b8 + 2 * b9 + 4 * b10 + 8 * b11) (b12 + 2 * b13 + 4 * b14 + 8 * b15) (b16 + 2 * b17 + 4 * b18 + 8 * b19) from by unfold v5; omega]
  rw [v5_st (by omega) (by omega) (by omega) (by omega) (by omega), c4n_b b0 h0 b1 h1 b2 h2 b3 h3, c4n_b b4 h4 b5 h5 b6 h6 b7 h7, c4n_b b8 h8 b9 h9 b10 h10 b11 h11, c4n_b b12 h12 b13 h13 b14 h14 b15 h15, c4n_b b16 h16 b17 h17 b18 h18 b19 h19]
  congr 1
  omega
theorem bs_cut (p : Nat → Bool) {m : Nat} (hm : m ≤ 20) : bs p m = bs (fun i => decide (i < m) && p i) 20 := by
  apply b_ext
  intro i hi
  rw [bt_bs _ m (by omega) i hi, bt_bs _ 20 (by omega) i hi]
  by_cases h : i < m
  · rw [decide_eq_true h, decide_eq_true (by omega)]; rfl
  · rw [decide_eq_false h]; simp
theorem ct_cut (p : Nat → Bool) {m : Nat} (hm : m ≤ 20) : fb_ct p m = fb_ct (fun i => decide (i < m) && p i) 20 := by
  obtain ⟨d, e⟩ := Nat.exists_eq_add_of_le hm
  rw [e, fb_ct_split]
  rw [show fb_ct (fun k => decide (m + k < m) && p (m + k)) d = 0 from fb_ct_zero.mpr (fun k _ => by rw [decide_eq_false (by omega)]; rfl), Nat.add_zero]
  exact fb_ct_cong (fun k hk => by rw [decide_eq_true hk]; rfl)
theorem pcnt_bs (p : Nat → Bool) {m : Nat} (hm : m ≤ 20) : pcnt (bs p m) = nI (fb_ct p m) := by
  rw [bs_cut p hm, ct_cut p hm, pcnt_20]
theorem bn_low (p : Nat → Bool) : ∀ k, bn p (k + 1) = (if p 0 then 1 else 0) + 2 * bn (fun i => p (i + 1)) k
  | 0 => by rw [bn, bn, bn]; omega
  | k + 1 => by
    rw [bn, bn_low p k, bn, Nat.pow_succ]
    rw [Nat.mul_add, ← Nat.mul_assoc, Nat.mul_comm _ 2, Nat.add_assoc]
theorem popF_0 : ∀ d, popF d 0 = 0
  | 0 => rfl
  | d + 1 => by rw [popF, Nat.zero_div, popF_0 d]
theorem popF_bn : ∀ (k d : Nat) (p : Nat → Bool), k ≤ d → popF d (bn p k) = fb_ct p k
  | 0, d, p, _ => popF_0 d
  | k + 1, 0, p, h => absurd h (by omega)
  | k + 1, d + 1, p, h => by
    have e : fb_ct p (k + 1) = (if p 0 then 1 else 0) + fb_ct (fun i => p (i + 1)) k := by
      have := fb_ct_split p 1 k
      rw [Nat.add_comm k 1, this, fb_ct_succ, fb_ct, Nat.zero_add]
      congr 1
      exact fb_ct_cong (fun i _ => by rw [Nat.add_comm])
    have hb := bit01 (p 0)
    rw [bn_low, popF, e, ← popF_bn k d (fun i => p (i + 1)) (by omega)]
    congr 1
    · omega
    · congr 1
      omega
theorem sz_bs (p : Nat → Bool) {m : Nat} (hm : m ≤ 20) : sz (bs p m) = nI (fb_ct p m) := by
  have hb := bn_lt p m
  have h2 : 2 ^ m ≤ 2 ^ 20 := Nat.pow_le_pow_right (by omega) hm
  have h31 : bn p m < 2 ^ 31 := by omega
  rw [bs_nI p m (by omega)]
  unfold sz
  rw [nI_clamp h31, popF_bn m 31 p (by omega)]
  by_cases h : nI (bn p m) ≤ 0
  · rw [if_pos h]
    have h0 : bn p m = 0 := by
      have := (le_nI (a := bn p m) (b := 0) h31 (by omega)).mp h
      omega
    have := popF_bn m 31 p (by omega)
    rw [h0, popF_0] at this
    rw [← this]; rfl
  · rw [if_neg h]
theorem pcnt_sz (p : Nat → Bool) {m : Nat} (hm : m ≤ 20) : pcnt (bs p m) = sz (bs p m) := by rw [pcnt_bs p hm, sz_bs p hm]
