/-! ===== Int32 by its bits: bt x i ===== -/
def bt (x : Int32) (i : Nat) : Bool := x.toBitVec.getLsbD i
theorem b_ext {x y : Int32} (h : ∀ i, i < 32 → bt x i = bt y i) : x = y := Int32.toBitVec_inj.mp (BitVec.eq_of_getLsbD_eq (fun i hi => h i hi))
theorem b_or (x y : Int32) (i : Nat) : bt (x ||| y) i = (bt x i || bt y i) := by unfold bt; rw [Int32.toBitVec_or, BitVec.getLsbD_or]
theorem b_and (x y : Int32) (i : Nat) : bt (x &&& y) i = (bt x i && bt y i) := by unfold bt; rw [Int32.toBitVec_and, BitVec.getLsbD_and]
theorem b_xor (x y : Int32) (i : Nat) : bt (x ^^^ y) i = (bt x i ^^ bt y i) := by unfold bt; rw [Int32.toBitVec_xor, BitVec.getLsbD_xor]
theorem b_big {x : Int32} {i : Nat} (h : 32 ≤ i) : bt x i = false := BitVec.getLsbD_of_ge _ _ h
theorem b_255 (i : Nat) : bt 255 i = decide (i < 8) := by
  rcases Nat.lt_or_ge i 32 with h | h
  · exact (by decide +kernel : ∀ i, i < 32 → bt 255 i = decide (i < 8)) i h
  · rw [b_big h, decide_eq_false (by omega)]
theorem b_65535 (i : Nat) : bt 65535 i = decide (i < 16) := by
  rcases Nat.lt_or_ge i 32 with h | h
  · exact (by decide +kernel : ∀ i, i < 32 → bt 65535 i = decide (i < 16)) i h
  · rw [b_big h, decide_eq_false (by omega)]
theorem b_m1 : ∀ i, i < 32 → bt (-1) i = true := by decide +kernel
theorem b_0 (i : Nat) : bt 0 i = false := BitVec.getLsbD_zero
theorem s_l : ∀ n, n < 32 → ((nI n &&& 31).toBitVec.smod 32).toNat = n := by decide +kernel
theorem s_u : ∀ n, n < 32 → (((nI n).toUInt32 &&& Int32.toUInt32 31).toBitVec % 32).toNat = n := by decide +kernel
theorem b_shl (n : Nat) (hn : n < 32) (x : Int32) {i : Nat} (hi : i < 32) : bt (x <<< (nI n &&& 31)) i = (decide (n ≤ i) && bt x (i - n)) := by
  unfold bt
  rw [Int32.toBitVec_shiftLeft]
  show (x.toBitVec <<< ((nI n &&& 31).toBitVec.smod 32).toNat).getLsbD i = _
  rw [s_l n hn, BitVec.getLsbD_shiftLeft]
  rcases Nat.lt_or_ge i n with h | h
  · simp [h, Nat.not_le.mpr h]
  · simp [hi, h, Nat.not_lt.mpr h]
theorem b_ushr (n : Nat) (hn : n < 32) (x : Int32) (i : Nat) : bt ((x.toUInt32 >>> ((nI n).toUInt32 &&& Int32.toUInt32 31)).toInt32) i = bt x (n + i) := by
  show (x.toUInt32 >>> ((nI n).toUInt32 &&& Int32.toUInt32 31)).toBitVec.getLsbD i = x.toUInt32.toBitVec.getLsbD (n + i)
  rw [UInt32.toBitVec_shiftRight]
  show (x.toUInt32.toBitVec >>> (((nI n).toUInt32 &&& Int32.toUInt32 31).toBitVec % 32).toNat).getLsbD i = _
  rw [s_u n hn, BitVec.getLsbD_ushiftRight]
theorem b_sshr (n : Nat) (hn : n < 32) (x : Int32) {i : Nat} (hi : i < 32) : bt (x >>> (nI n &&& 31)) i = if n + i < 32 then bt x (n + i) else bt x 31 := by
  unfold bt
  rw [Int32.toBitVec_shiftRight]
  show (x.toBitVec.sshiftRight ((nI n &&& 31).toBitVec.smod 32).toNat).getLsbD i = _
  rw [s_l n hn, BitVec.getLsbD_sshiftRight, BitVec.msb_eq_getLsbD_last]
  simp [hi]
theorem b_shl8 (x : Int32) {i : Nat} (hi : i < 32) : bt (x <<< ((8 : Int32) &&& 31)) i = (decide (8 ≤ i) && bt x (i - 8)) := b_shl 8 (by omega) x hi
theorem b_shl16 (x : Int32) {i : Nat} (hi : i < 32) : bt (x <<< ((16 : Int32) &&& 31)) i = (decide (16 ≤ i) && bt x (i - 16)) := b_shl 16 (by omega) x hi
theorem b_shl24 (x : Int32) {i : Nat} (hi : i < 32) : bt (x <<< ((24 : Int32) &&& 31)) i = (decide (24 ≤ i) && bt x (i - 24)) := b_shl 24 (by omega) x hi
theorem b_sshr8 (x : Int32) {i : Nat} (hi : i < 32) : bt (x >>> ((8 : Int32) &&& 31)) i = if 8 + i < 32 then bt x (8 + i) else bt x 31 := b_sshr 8 (by omega) x hi
/-! ===== sets as bits ===== -/
theorem b_1 (i : Nat) : bt 1 i = decide (i = 0) := by
  rcases Nat.lt_or_ge i 32 with h | h
  · exact (by decide +kernel : ∀ i, i < 32 → bt 1 i = decide (i = 0)) i h
  · rw [b_big h, decide_eq_false (by omega)]
theorem b_one {k : Nat} (hk : k < 32) {i : Nat} (hi : i < 32) : bt ((1 : Int32) <<< (nI k &&& 31)) i = decide (i = k) := by
  rw [b_shl k hk 1 hi, b_1]
  by_cases h : i = k
  · subst h; simp
  · rw [decide_eq_false h]
    rcases Nat.lt_or_ge i k with h2 | h2
    · rw [decide_eq_false (by omega)]; rfl
    · rw [decide_eq_false (show ¬ i - k = 0 by omega), Bool.and_false]
theorem b_not (x : Int32) {i : Nat} (hi : i < 32) : bt (x ^^^ (-1)) i = !bt x i := by rw [b_xor, b_m1 i hi, Bool.xor_true]
theorem shr1 (x : Int32) {k : Nat} (hk : k < 32) : (x >>> (nI k &&& 31)) &&& 1 = if bt x k = true then 1 else 0 := by
  apply b_ext
  intro i hi
  rw [b_and, b_sshr k hk x hi, b_1]
  by_cases h0 : i = 0
  · subst h0
    rw [Nat.add_zero, if_pos hk]
    by_cases hb : bt x k = true
    · rw [if_pos hb, hb, b_1]; rfl
    · rw [if_neg hb, b_0]
      simp at hb
      rw [hb]; rfl
  · rw [decide_eq_false h0, Bool.and_false]
    by_cases hb : bt x k = true
    · rw [if_pos hb, b_1, decide_eq_false h0]
    · rw [if_neg hb, b_0]
def bs (p : Nat → Bool) : Nat → Int32
  | 0 => 0
  | k + 1 => bs p k ||| (if p k = true then (1 : Int32) <<< (nI k &&& 31) else 0)
theorem bt_bs (p : Nat → Bool) : ∀ (n : Nat), n ≤ 32 → ∀ i, i < 32 → bt (bs p n) i = (decide (i < n) && p i)
  | 0, _, i, _ => by rw [bs, b_0, decide_eq_false (by omega)]; rfl
  | k + 1, hk, i, hi => by
    rw [bs, b_or, bt_bs p k (by omega) i hi]
    by_cases hik : i = k
    · subst hik
      rw [decide_eq_false (by omega), decide_eq_true (by omega)]
      by_cases hp : p i = true
      · rw [if_pos hp, b_one (by omega) hi, decide_eq_true rfl, hp]; rfl
      · rw [if_neg hp, b_0]; simp at hp; rw [hp]; rfl
    · have : bt (if p k = true then (1 : Int32) <<< (nI k &&& 31) else 0) i = false := by
        by_cases hp : p k = true
        · rw [if_pos hp, b_one (by omega) hi, decide_eq_false hik]
        · rw [if_neg hp, b_0]
      rw [this, Bool.or_false]
      by_cases h : i < k
      · rw [decide_eq_true h, decide_eq_true (by omega)]
      · rw [decide_eq_false h, decide_eq_false (by omega)]
theorem bs_cong {p q : Nat → Bool} : ∀ {n : Nat}, (∀ k, k < n → p k = q k) → bs p n = bs q n
  | 0, _ => rfl
  | n + 1, h => by rw [bs, bs, bs_cong (fun k hk => h k (by omega)), h n (by omega)]
theorem bs_all : ∀ n, n ≤ 31 → (1 : Int32) <<< (nI n &&& 31) - 1 = bs (fun _ => true) n := by decide +kernel
theorem bs_zero {p : Nat → Bool} {n : Nat} (hn : n ≤ 32) : bs p n = 0 ↔ ∀ k, k < n → p k = false := by
  constructor
  · intro h k hk
    have := bt_bs p n hn k (by omega)
    rw [h, b_0, decide_eq_true hk] at this
    simpa using this.symm
  · intro h
    apply b_ext
    intro i hi
    rw [bt_bs p n hn i hi, b_0]
    by_cases hin : i < n
    · rw [h i hin, Bool.and_false]
    · rw [decide_eq_false hin]; rfl
theorem bs_and {p q : Nat → Bool} {n : Nat} (hn : n ≤ 32) : bs p n &&& bs q n = bs (fun k => p k && q k) n := by
  apply b_ext
  intro i hi
  rw [b_and, bt_bs _ n hn i hi, bt_bs _ n hn i hi, bt_bs _ n hn i hi]
  by_cases h : i < n
  · simp [h]
  · simp [h]
theorem bs_or {p q : Nat → Bool} {n : Nat} (hn : n ≤ 32) : bs p n ||| bs q n = bs (fun k => p k || q k) n := by
  apply b_ext
  intro i hi
  rw [b_or, bt_bs _ n hn i hi, bt_bs _ n hn i hi, bt_bs _ n hn i hi]
  by_cases h : i < n
  · simp [h]
  · simp [h]
theorem bs_diff {p q : Nat → Bool} {n : Nat} (hn : n ≤ 32) : bs p n &&& (bs q n ^^^ (-1)) = bs (fun k => p k && !q k) n := by
  apply b_ext
  intro i hi
  rw [b_and, b_not _ hi, bt_bs _ n hn i hi, bt_bs _ n hn i hi, bt_bs _ n hn i hi]
  by_cases h : i < n
  · simp [h]
  · simp [h]
theorem bs_bit {p : Nat → Bool} {n k : Nat} (hn : n ≤ 32) (hk : k < n) : (bs p n >>> (nI k &&& 31)) &&& 1 = if p k = true then 1 else 0 := by
  rw [shr1 _ (by omega), bt_bs p n hn k (by omega), decide_eq_true hk, Bool.true_and]
