/-! ===== Int32 by its bits: bt x i ===== -/
def bt (x : Int32) (i : Nat) : Bool := x.toBitVec.getLsbD i
theorem b_ext {x y : Int32} (h : ∀ i, i < 32 → bt x i = bt y i) : x = y := Int32.toBitVec_inj.mp (BitVec.eq_of_getLsbD_eq (fun i hi => h i hi))
theorem b_or (x y : Int32) (i : Nat) : bt (x ||| y) i = (bt x i || bt y i) := by unfold bt; rw [Int32.toBitVec_or, BitVec.getLsbD_or]
theorem b_and (x y : Int32) (i : Nat) : bt (x &&& y) i = (bt x i && bt y i) := by unfold bt; rw [Int32.toBitVec_and, BitVec.getLsbD_and]
theorem b_xor (x y : Int32) (i : Nat) : bt (x ^^^ y) i = (bt x i ^^ bt y i) := by unfold bt; rw [Int32.toBitVec_xor, BitVec.getLsbD_xor]
theorem b_big {x : Int32} {i : Nat} (h : 32 ≤ i) : bt x i = false := BitVec.getLsbD_of_ge _ _ h
theorem b_255 (i : Nat) : bt 255 i = decide (i < 8) := by
  rcases Nat.lt_or_ge i 32 with h | h
  · exact (by decide +kernel : ∀ i, i < 32 → bt 255 i = decide (i < 8)) i h
  · rw [b_big h, decide_eq_false (by omega)]
theorem b_65535 (i : Nat) : bt 65535 i = decide (i < 16) := by
  rcases Nat.lt_or_ge i 32 with h | h
  · exact (by decide +kernel : ∀ i, i < 32 → bt 65535 i = decide (i < 16)) i h
  · rw [b_big h, decide_eq_false (by omega)]
theorem b_m1 : ∀ i, i < 32 → bt (-1) i = true := by decide +kernel
theorem b_0 (i : Nat) : bt 0 i = false := BitVec.getLsbD_zero
theorem s_l : ∀ n, n < 32 → ((nI n &&& 31).toBitVec.smod 32).toNat = n := by decide +kernel
theorem s_u : ∀ n, n < 32 → (((nI n).toUInt32 &&& Int32.toUInt32 31).toBitVec % 32).toNat = n := by decide +kernel
theorem b_shl (n : Nat) (hn : n < 32) (x : Int32) {i : Nat} (hi : i < 32) : bt (x <<< (nI n &&& 31)) i = (decide (n ≤ i) && bt x (i - n)) := by
  unfold bt
  rw [Int32.toBitVec_shiftLeft]
  show (x.toBitVec <<< ((nI n &&& 31).toBitVec.smod 32).toNat).getLsbD i = _
  rw [s_l n hn, BitVec.getLsbD_shiftLeft]
  rcases Nat.lt_or_ge i n with h | h
  · simp [h, Nat.not_le.mpr h]
  · simp [hi, h, Nat.not_lt.mpr h]
theorem b_ushr (n : Nat) (hn : n < 32) (x : Int32) (i : Nat) : bt ((x.toUInt32 >>> ((nI n).toUInt32 &&& Int32.toUInt32 31)).toInt32) i = bt x (n + i) := by
  show (x.toUInt32 >>> ((nI n).toUInt32 &&& Int32.toUInt32 31)).toBitVec.getLsbD i = x.toUInt32.toBitVec.getLsbD (n + i)
  rw [UInt32.toBitVec_shiftRight]
  show (x.toUInt32.toBitVec >>> (((nI n).toUInt32 &&& Int32.toUInt32 31).toBitVec % 32).toNat).getLsbD i = _
  rw [s_u n hn, BitVec.getLsbD_ushiftRight]
theorem b_sshr (n : Nat) (hn : n < 32) (x : Int32) {i : Nat} (hi : i < 32) : bt (x >>> (nI n &&& 31)) i = if n + i < 32 then bt x (n + i) else bt x 31 := by
  unfold bt
  rw [Int32.toBitVec_shiftRight]
  show (x.toBitVec.sshiftRight ((nI n &&& 31).toBitVec.smod 32).toNat).getLsbD i = _
  rw [s_l n hn, BitVec.getLsbD_sshiftRight, BitVec.msb_eq_getLsbD_last]
  simp [hi]
theorem b_shl8 (x : Int32) {i : Nat} (hi : i < 32) : bt (x <<< ((8 : Int32) &&& 31)) i = (decide (8 ≤ i) && bt x (i - 8)) := b_shl 8 (by omega) x hi
theorem b_shl16 (x : Int32) {i : Nat} (hi : i < 32) : bt (x <<< ((16 : Int32) &&& 31)) i = (decide (16 ≤ i) && bt x (i - 16)) := b_shl 16 (by omega) x hi
theorem b_shl24 (x : Int32) {i : Nat} (hi : i < 32) : bt (x <<< ((24 : Int32) &&& 31)) i = (decide (24 ≤ i) && bt x (i - 24)) := b_shl 24 (by omega) x hi
theorem b_sshr8 (x : Int32) {i : Nat} (hi : i < 32) : bt (x >>> ((8 : Int32) &&& 31)) i = if 8 + i < 32 then bt x (8 + i) else bt x 31 := b_sshr 8 (by omega) x hi
/-! ===== sets as bits ===== -/
theorem b_1 (i : Nat) : bt 1 i = decide (i = 0) := by
  rcases Nat.lt_or_ge i 32 with h | h
  · exact (by decide +kernel : ∀ i, i < 32 → bt 1 i = decide (i = 0)) i h
  · rw [b_big h, decide_eq_false (by omega)]
theorem b_one {k : Nat} (hk : k < 32) {i : Nat} (hi : i < 32) : bt ((1 : Int32) <<< (nI k &&& 31)) i = decide (i = k) := by
  rw [b_shl k hk 1 hi, b_1]
  by_cases h : i = k
  · subst h; simp
  · rw [decide_eq_false h]
    rcases Nat.lt_or_ge i k with h2 | h2
    · rw [decide_eq_false (by omega)]; rfl
    · rw [decide_eq_false (show ¬ i - k = 0 by omega), Bool.and_false]
theorem b_not (x : Int32) {i : Nat} (hi : i < 32) : bt (x ^^^ (-1)) i = !bt x i := by rw [b_xor, b_m1 i hi, Bool.xor_true]
theorem shr1 (x : Int32) {k : Nat} (hk : k < 32) : (x >>> (nI k &&& 31)) &&& 1 = if bt x k = true then 1 else 0 := by
  apply b_ext
  intro i hi
  rw [b_and, b_sshr k hk x hi, b_1]
  by_cases h0 : i = 0
  · subst h0
    rw [Nat.add_zero, if_pos hk]
    by_cases hb : bt x k = true
    · rw [if_pos hb, hb, b_1]; rfl
    · rw [if_neg hb, b_0]
      simp at hb
      rw [hb]; rfl
  · rw [decide_eq_false h0, Bool.and_false]
    by_cases hb : bt x k = true
    · rw [if_pos hb, b_1, decide_eq_false h0]
    · rw [if_neg hb, b_0]
def bs (p : Nat → Bool) : Nat → Int32
  | 0 => 0
  | k + 1 => bs p k ||| (if p k = true then (1 : Int32) <<< (nI k &&& 31) else 0)
theorem bt_bs (p : Nat → Bool) : ∀ (n : Nat), n ≤ 32 → ∀ i, i < 32 → bt (bs p n) i = (decide (i < n) && p i)
  | 0, _, i, _ => by rw [bs, b_0, decide_eq_false (by omega)]; rfl
  | k + 1, hk, i, hi => by
    rw [bs, b_or, bt_bs p k (by omega) i hi]
    by_cases hik : i = k
    · subst hik
      rw [decide_eq_false (by omega), decide_eq_true (by omega)]
      by_cases hp : p i = true
      · rw [if_pos hp, b_one (by omega) hi, decide_eq_true rfl, hp]; rfl
      · rw [if_neg hp, b_0]; simp at hp; rw [hp]; rfl
    · have : bt (if p k = true then (1 : Int32) <<< (nI k &&& 31) else 0) i = false := by
        by_cases hp : p k = true
        · rw [if_pos hp, b_one (by omega) hi, decide_eq_false hik]
        · rw [if_neg hp, b_0]
      rw [this, Bool.or_false]
      by_cases h : i < k
      · rw [decide_eq_true h, decide_eq_true (by omega)]
      · rw [decide_eq_false h, decide_eq_false (by omega)]
theorem bs_cong {p q : Nat → Bool} : ∀ {n : Nat}, (∀ k, k < n → p k = q k) → bs p n = bs q n
  | 0, _ => rfl
  | n + 1, h => by rw [bs, bs, bs_cong (fun k hk => h k (by omega)), h n (by omega)]
theorem bs_all : ∀ n, n ≤ 31 → (1 : Int32) <<< (nI n &&& 31) - 1 = bs (fun _ => true) n := by decide +kernel
theorem bs_zero {p : Nat → Bool} {n : Nat} (hn : n ≤ 32) : bs p n = 0 ↔ ∀ k, k < n → p k = false := by
  constructor
  · intro h k hk
    have := bt_bs p n hn k (by omega)
    rw [h, b_0, decide_eq_true hk] at this
    simpa using this.symm
  · intro h
    apply b_ext
    intro i hi
    rw [bt_bs p n hn i hi, b_0]
    by_cases hin : i < n
    · rw [h i hin, Bool.and_false]
    · rw [decide_eq_false hin]; rfl
theorem bs_and {p q : Nat → Bool} {n : Nat} (hn : n ≤ 32) : bs p n &&& bs q n = bs (fun k => p k && q k) n := by
  apply b_ext
  intro i hi
  rw [b_and, bt_bs _ n hn i hi, bt_bs _ n hn i hi, bt_bs _ n hn i hi]
  by_cases h : i < n
  · simp [h]
  · simp [h]
theorem bs_or {p q : Nat → Bool} {n : Nat} (hn : n ≤ 32) : bs p n ||| bs q n = bs (fun k => p k || q k) n := by
  apply b_ext
  intro i hi
  rw [b_or, bt_bs _ n hn i hi, bt_bs _ n hn i hi, bt_bs _ n hn i hi]
  by_cases h : i < n
  · simp [h]
  · simp [h]
theorem bs_diff {p q : Nat → Bool} {n : Nat} (hn : n ≤ 32) : bs p n &&& (bs q n ^^^ (-1)) = bs (fun k => p k && !q k) n := by
  apply b_ext
  intro i hi
  rw [b_and, b_not _ hi, bt_bs _ n hn i hi, bt_bs _ n hn i hi, bt_bs _ n hn i hi]
  by_cases h : i < n
  · simp [h]
  · simp [h]
theorem bs_bit {p : Nat → Bool} {n k : Nat} (hn : n ≤ 32) (hk : k < n) : (bs p n >>> (nI k &&& 31)) &&& 1 = if p k = true then 1 else 0 := by
  rw [shr1 _ (by omega), bt_bs p n hn k (by omega), decide_eq_true hk, Bool.true_and]
def fb_ct (p : Nat → Bool) : Nat → Nat
  | 0 => 0
  | n + 1 => fb_ct p n + (if p n then 1 else 0)
theorem fb_ct_succ (p : Nat → Bool) (n : Nat) : fb_ct p (n + 1) = fb_ct p n + (if p n then 1 else 0) := rfl
theorem fb_ct_le (p : Nat → Bool) : ∀ n, fb_ct p n ≤ n
  | 0 => Nat.le_refl _
  | n + 1 => by
    have h := fb_ct_le p n
    rw [fb_ct_succ]
    split <;> omega
theorem fb_ct_step (p : Nat → Bool) (m : Nat) : ∀ n, fb_ct p m ≤ fb_ct p (m + n)
  | 0 => Nat.le_refl _
  | n + 1 => by
    have h := fb_ct_step p m n
    show fb_ct p m ≤ fb_ct p (m + n + 1)
    rw [fb_ct_succ]
    omega
theorem fb_ct_mono (p : Nat → Bool) {m n : Nat} (h : m ≤ n) : fb_ct p m ≤ fb_ct p n := by
  have := fb_ct_step p m (n - m)
  rwa [Nat.add_sub_cancel' h] at this
theorem fb_ct_cong {p q : Nat → Bool} : ∀ {n : Nat}, (∀ k, k < n → p k = q k) → fb_ct p n = fb_ct q n
  | 0, _ => rfl
  | n + 1, h => by
    rw [fb_ct_succ, fb_ct_succ, fb_ct_cong (fun k hk => h k (by omega)), h n (by omega)]
/-- one place changed -/
theorem fb_ct_out (p : Nat → Bool) (b : Bool) {i n : Nat} (h : n ≤ i) : fb_ct (fun k => if k = i then b else p k) n = fb_ct p n :=
  fb_ct_cong fun k hk => if_neg (by omega)
theorem fb_ct_upd (p : Nat → Bool) (b : Bool) {i : Nat} : ∀ {n : Nat}, i < n → fb_ct (fun k => if k = i then b else p k) n + (if p i then 1 else 0) = fb_ct p n + (if b then 1 else 0)
  | 0, h => absurd h (Nat.not_lt_zero i)
  | n + 1, h => by
    rw [fb_ct_succ, fb_ct_succ]
    rcases Nat.lt_or_ge i n with q | q
    · have := fb_ct_upd p b q
      have e : (if n = i then b else p n) = p n := if_neg (by omega)
      rw [e]
      omega
    · have e : i = n := by omega
      subst e
      rw [fb_ct_out p b (Nat.le_refl _)]
      simp only [if_true]
      omega
theorem fb_ct_sub {p q : Nat → Bool} : ∀ {n : Nat}, (∀ k, k < n → p k = true → q k = true) → fb_ct p n ≤ fb_ct q n
  | 0, _ => Nat.le_refl _
  | n + 1, h => by
    have h1 := fb_ct_sub (n := n) (p := p) (q := q) (fun k hk => h k (by omega))
    have h2 := h n (by omega)
    rw [fb_ct_succ, fb_ct_succ]
    cases hp : p n <;> cases hq : q n <;> simp_all <;> omega
theorem fb_ct_or {p q : Nat → Bool} : ∀ {n : Nat}, (∀ k, k < n → ¬ (p k = true ∧ q k = true)) → fb_ct (fun k => p k || q k) n = fb_ct p n + fb_ct q n
  | 0, _ => rfl
  | n + 1, h => by
    have h1 := fb_ct_or (n := n) (p := p) (q := q) (fun k hk => h k (by omega))
    have h2 := h n (by omega)
    rw [fb_ct_succ, fb_ct_succ, fb_ct_succ, h1]
    cases hp : p n <;> cases hq : q n <;> simp_all <;> omega
theorem fb_ct_not (p : Nat → Bool) : ∀ n, fb_ct p n + fb_ct (fun k => !p k) n = n
  | 0 => rfl
  | n + 1 => by
    have h := fb_ct_not p n
    rw [fb_ct_succ, fb_ct_succ]
    cases p n <;> simp <;> omega
theorem fb_ct_split (p : Nat → Bool) (m : Nat) : ∀ n, fb_ct p (m + n) = fb_ct p m + fb_ct (fun k => p (m + k)) n
  | 0 => rfl
  | n + 1 => by
    have h := fb_ct_split p m n
    show fb_ct p (m + n + 1) = _
    rw [fb_ct_succ, fb_ct_succ, h, Nat.add_assoc]
theorem fb_ct_zero {p : Nat → Bool} : ∀ {n : Nat}, fb_ct p n = 0 ↔ ∀ k, k < n → p k = false
  | 0 => ⟨fun _ k hk => absurd hk (Nat.not_lt_zero k), fun _ => rfl⟩
  | n + 1 => by
    have h := fb_ct_zero (p := p) (n := n)
    rw [fb_ct_succ]
    constructor
    · intro e k hk
      have e1 : fb_ct p n = 0 := by omega
      rcases Nat.lt_or_ge k n with q | q
      · exact h.mp e1 k q
      · have ek : k = n := by omega
        subst ek
        cases hp : p k
        · rfl
        · simp [hp] at e
    · intro a
      rw [h.mpr (fun k hk => a k (by omega)), a n (by omega)]
      rfl
theorem fb_ct_pos {p : Nat → Bool} {n : Nat} : 0 < fb_ct p n ↔ ∃ k, k < n ∧ p k = true := by
  constructor
  · intro h
    refine Classical.byContradiction fun hx => ?_
    have := fb_ct_zero.mpr (fun k hk => by
      cases hp : p k
      · rfl
      · exact absurd ⟨k, hk, hp⟩ hx : ∀ k, k < n → p k = false)
    omega
  · rintro ⟨k, hk, hp⟩
    rcases Nat.eq_zero_or_pos (fb_ct p n) with e | e
    · have := fb_ct_zero.mp e k hk
      rw [this] at hp
      cases hp
    · exact e
theorem fb_ct_all {p : Nat → Bool} {n : Nat} : fb_ct p n = n ↔ ∀ k, k < n → p k = true := by
  have h := fb_ct_not p n
  constructor
  · intro e k hk
    have z : fb_ct (fun k => !p k) n = 0 := by omega
    have := fb_ct_zero.mp z k hk
    cases hp : p k
    · simp [hp] at this
    · rfl
  · intro a
    have z : fb_ct (fun k => !p k) n = 0 := fb_ct_zero.mpr (fun k hk => by simp [a k hk])
    omega
/-- the k-th place with the property -/
theorem fb_ct_kth {p : Nat → Bool} {k : Nat} : ∀ {n : Nat}, k < fb_ct p n → ∃ i, i < n ∧ p i = true ∧ fb_ct p i = k
  | 0, h => absurd h (Nat.not_lt_zero k)
  | n + 1, h => by
    rcases Nat.lt_or_ge k (fb_ct p n) with q | q
    · obtain ⟨i, h1, h2⟩ := fb_ct_kth q
      exact ⟨i, by omega, h2⟩
    · rw [fb_ct_succ] at h
      cases hp : p n
      · simp [hp] at h; omega
      · simp [hp] at h
        exact ⟨n, by omega, hp, by omega⟩
theorem fb_ct_kth_one {p : Nat → Bool} {i j : Nat} (hi : p i = true) (hj : p j = true) (e : fb_ct p i = fb_ct p j) : i = j := by
  have key : ∀ a b : Nat, a < b → p a = true → fb_ct p a < fb_ct p b := by
    intro a b hab ha
    have h := fb_ct_mono p (show a + 1 ≤ b from hab)
    rw [fb_ct_succ, ha] at h
    simp at h
    omega
  rcases Nat.lt_trichotomy i j with q | q | q
  · have := key i j q hi; omega
  · exact q
  · have := key j i q hj; omega
/-! ===== sums over a range: one place changed, parts, bounds ===== -/
/-! ===== plain words for what the methods do ===== -/
theorem vi_nI {j n : Nat} (h : j < n) (hn : n < 2 ^ 31) : vp_in (nI j) n := vp_in_nI h hn
theorem cl_nI {j : Nat} (h : j < 2 ^ 31) : (nI j).toNatClampNeg = j := nI_clamp h
theorem fu_eq {α : Type} (f : Nat → α) (k : Nat) (g : α) : fu f k g k = g := if_pos rfl
theorem fu_ne {α : Type} {f : Nat → α} {k j : Nat} {g : α} (h : j ≠ k) : fu f k g j = f j := if_neg h
theorem upd_eq (f : Nat → Int32) (k : Nat) (x : Int32) : upd f k x k = x := pk_us
theorem upd_ne {f : Nat → Int32} {k j : Nat} {x : Int32} (h : j ≠ k) : upd f k x j = f j := pk_un h
theorem mg_in {α : Type} {f g : Nat → α} {b n j : Nat} (h1 : b ≤ j) (h2 : j < b + n) : mg f b n g j = g (j - b) := if_pos ⟨h1, h2⟩
theorem mg_out {α : Type} {f g : Nat → α} {b n j : Nat} (h : ¬ (b ≤ j ∧ j < b + n)) : mg f b n g j = f j := if_neg h
theorem le_nI {a b : Nat} (ha : a < 2 ^ 31) (hb : b < 2 ^ 31) : nI a ≤ nI b ↔ a ≤ b := nI_leI ha hb
/-- one step -/
def mk (w a b : Int32) : Int32 := if w = 0 then (a + b) - (a + b) / 10 * 10 else if w = 1 then (if b ≤ a then a - b else (a - b) + 10) else if w = 2 then (a * b) - (a * b) / 10 * 10 else if w = 3 then (if a ≤ b then b else a) else (if b ≤ a then b else a)
/-- what the first k steps make, by their places; the inputs at 5 and 6 -/
def tab (w a b : Nat → Int32) (x y : Int32) : Nat → Nat → Int32
  | 0 => fun j => if j = 5 then x else if j = 6 then y else 0
  | k + 1 => fun j => if j = k then mk (w k) (tab w a b x y k (a k).toNatClampNeg) (tab w a b x y k (b k).toNatClampNeg) else tab w a b x y k j
def okSrc (z : Int32) (k : Nat) : Prop := ∃ j : Nat, z = nI j ∧ (j < k ∨ j = 5 ∨ j = 6)
def here (n j : Nat) : Prop := j < n ∨ j = 5 ∨ j = 6
theorem okSrc.in7 {z : Int32} {k : Nat} (h : okSrc z k) (hk : k ≤ 5) : vp_in z 7 := by
  obtain ⟨j, rfl, hj⟩ := h
  exact vp_in_nI (by omega) (by omega)
theorem okSrc.here {z : Int32} {k : Nat} (h : okSrc z k) (hk : k ≤ 5) : here k z.toNatClampNeg := by
  obtain ⟨j, rfl, hj⟩ := h
  rw [nI_clamp (by omega)]
  exact hj
theorem tab_in {w a b : Nat → Int32} {x y : Int32} : ∀ {k m : Nat}, k ≤ m → m ≤ 5 → ∀ j, here k j → tab w a b x y m j = tab w a b x y k j := by
  intro k m hkm hm j hj
  obtain ⟨d, rfl⟩ := Nat.exists_eq_add_of_le hkm
  clear hkm
  induction d with
  | zero => rfl
  | succ d ih =>
    show (if j = k + d then _ else tab w a b x y (k + d) j) = _
    unfold here at hj
    rw [if_neg (by omega)]
    exact ih (by omega)
theorem tab_cong {w w' a b : Nat → Int32} {x y : Int32} : ∀ {m : Nat}, (∀ k, k < m → w k = w' k) → tab w a b x y m = tab w' a b x y m := by
  intro m
  induction m with
  | zero => intro _; rfl
  | succ m ih =>
    intro h
    funext j
    show (if j = m then mk (w m) _ _ else tab w a b x y m j) = (if j = m then mk (w' m) _ _ else tab w' a b x y m j)
    rw [ih (fun k hk => h k (by omega)), h m (by omega)]
/-- the program's (a mutant's) output -/
def out (w a b : Nat → Int32) (x y : Int32) (n : Nat) : Int32 := if n = 0 then 0 else tab w a b x y n (n - 1)
/-- the other way -/
def ow (w : Int32) (p : Nat) : Int32 := if w ≤ nI p then nI p + 1 else nI p
/-- the ways of mutant q -/
def mw (w : Nat → Int32) (q : Nat) : Nat → Int32 := fu w (q / 4) (ow (w (q / 4)) (q % 4))
/-- a mutant is told from the program at x, y -/
def kill (w a b : Nat → Int32) (n : Nat) (x y : Int32) (q : Nat) : Bool := decide (¬ out (mw w q) a b x y n = out w a b x y n)
/-- a program as a walk knows it -/
def PI (n t : Nat) (f : FF) (v : VV) : Prop := n ≤ 5 ∧ t ≤ 7 ∧ v 0 = nI n ∧ v 1 = nI t ∧ ∀ k, k < n → okSrc (f 1 k) k ∧ okSrc (f 2 k) k
/-- the figures are those of x, y -/
def FG (n : Nat) (x y : Int32) (f : FF) : Prop := ∀ j, here n j → f 7 j = tab (f 0) (f 1) (f 2) x y n j
/-- all rows but two stay -/
def Sm (f f' : FF) : Prop := ∀ j, j ≠ 7 → j ≠ 8 → f' j = f j
theorem Sm.rf {f : FF} : Sm f f := fun _ _ _ => rfl
theorem Sm.tr {f g h : FF} (h1 : Sm f g) (h2 : Sm g h) : Sm f h := fun j a b => (h2 j a b).trans (h1 j a b)
theorem PI.sm {n t : Nat} {f f' : FF} {v : VV} (h : PI n t f v) (hs : Sm f f') : PI n t f' v := by
  obtain ⟨h1, h2, h3, h4, h5⟩ := h
  refine ⟨h1, h2, h3, h4, fun k hk => ?_⟩
  rw [hs 1 (by decide) (by decide), hs 2 (by decide) (by decide)]
  exact h5 k hk
theorem q_make {w a b : Int32} {post : Int32 → Prop} (h : post (mk w a b)) : Q_X1_make w a b post := by
  unfold Q_X1_make
  unfold mk at h
  refine ⟨fun c => ?_, fun c => ⟨fun c1 => ⟨fun c2 => ?_, fun c2 => ?_⟩, fun c1 => ⟨fun c2 => ?_, fun c2 => ⟨fun c3 => ⟨fun c4 => ?_, fun c4 => ?_⟩, fun c3 => ⟨fun c4 => ?_, fun c4 => ?_⟩⟩⟩⟩⟩ <;> simp_all
theorem q_run_loop {n t : Nat} {x y : Int32} {K : Int32 → Int32 → FF → VV → Prop} {v : VV} {f0 : FF} (hP : PI n t f0 v)
    (hK : ∀ (x4 : Int32) (f : FF), (∀ j, j ≠ 7 → f j = f0 j) → (∀ j, here n j → f 7 j = tab (f0 0) (f0 1) (f0 2) x y n j) → K (out (f0 0) (f0 1) (f0 2) x y n) x4 f v) :
    ∀ (d k : Nat) (x3 : Int32) (f : FF), k + d = n → (∀ j, j ≠ 7 → f j = f0 j) → (∀ j, here k j → f 7 j = tab (f0 0) (f0 1) (f0 2) x y k j) → x3 = (if k = 0 then 0 else tab (f0 0) (f0 1) (f0 2) x y k (k - 1)) → Q_X1_run_L20 x y K (d + 1) x3 (nI k) f v := by
  obtain ⟨hn, ht, e0, e1, hok⟩ := hP
  intro d
  induction d with
  | zero =>
    intro k x3 f hk hf h7 h3
    rw [Q_X1_run_L20]
    have hk : k = n := by omega
    subst hk
    refine ⟨fun c => ?_, fun c => absurd (by rw [e0]; exact Int32.le_refl _) c⟩
    rw [h3]
    exact hK _ f hf h7
  | succ d ih =>
    intro k x3 f hk hf h7 h3
    rw [Q_X1_run_L20]
    have hkn : k < n := by omega
    have c4 : (nI k).toNatClampNeg = k := nI_clamp (by omega)
    refine ⟨fun c => ?_, fun c => ?_⟩
    · rw [e0, le_nI (by omega) (by omega)] at c
      omega
    · rw [c4, hf 1 (by decide), hf 2 (by decide), hf 0 (by decide)]
      obtain ⟨o1, o2⟩ := hok k hkn
      refine ⟨vi_nI (by omega) (by omega), vi_nI (by omega) (by omega), o1.in7 (by omega), vi_nI (by omega) (by omega), o2.in7 (by omega), q_make ?_⟩
      refine ⟨vi_nI (by omega) (by omega), fun f' ef x' ex => ?_⟩
      rw [ex, nI_1]
      rw [h7 _ (o1.here (by omega)), h7 _ (o2.here (by omega))] at ef ⊢
      refine ih (k + 1) _ f' (by omega) ?_ ?_ ?_
      · intro j hj
        rw [ef, fu_ne hj]
        exact hf j hj
      · intro j hj
        rw [ef, fu_eq]
        show upd (f 7) (nI k).toNatClampNeg _ j = (if j = k then _ else _)
        rw [c4]
        by_cases hjk : j = k
        · rw [if_pos hjk, hjk, upd_eq]
        · rw [if_neg hjk, upd_ne hjk]
          exact h7 j (by unfold here at hj ⊢; omega)
      · rw [if_neg (by omega)]
        show _ = (if k + 1 - 1 = k then _ else _)
        rw [if_pos (by omega)]
theorem q_run {n t : Nat} {x y : Int32} {f : FF} {v : VV} {post : Int32 → FF → VV → Prop} (hP : PI n t f v) (h : ∀ f' : FF, (∀ j, j ≠ 7 → f' j = f j) → FG n x y f' → post (out (f 0) (f 1) (f 2) x y n) f' v) : Q_X1_run x y f v post := by
  unfold Q_X1_run
  intro f2 e2 f4 e4
  refine ⟨n + 1, ?_⟩
  have hn := hP.1
  refine q_run_loop hP (fun x4 f' hf h7 => h f' hf ?_) n 0 0 f4 (by omega) ?_ ?_ rfl
  · intro j hj
    rw [hf 0 (by decide), hf 1 (by decide), hf 2 (by decide)]
    exact h7 j hj
  · intro j hj
    rw [e4, fu_ne hj, e2, fu_ne hj]
  · intro j hj
    rw [e4, fu_eq, e2, fu_eq]
    show upd (upd (f 7) 5 x) 6 y j = (if j = 5 then x else if j = 6 then y else 0)
    unfold here at hj
    rcases (show j = 5 ∨ j = 6 by omega) with rfl | rfl
    · rw [upd_ne (by decide), upd_eq]; rfl
    · rw [upd_eq]; rfl
/-! ===== Program ===== -/
theorem nI_rng {p : Int32} {n : Nat} (hn : n < 2 ^ 31) (h0 : ¬ p < 0) (h1 : ¬ nI n ≤ p) : ∃ j, j < n ∧ p = nI j := by
  rcases pk_ix p hn with h | h | h
  · exact absurd h h0
  · exact absurd h h1
  · exact h
theorem nI_neg {k : Nat} (hk : k < 2 ^ 31) : ¬ nI k < 0 := nI_pos hk
theorem nI_ge_ne {p : Int32} {n : Nat} (hn : n < 2 ^ 31) (h : nI n ≤ p) : ∀ k, k < n → p ≠ nI k := by
  intro k hk e
  rw [e, le_nI hn (by omega)] at h
  omega
theorem nI_lt_ne {p : Int32} (h : p < 0) : ∀ k, k < 2 ^ 31 → p ≠ nI k := by
  intro k hk e
  rw [e] at h
  exact nI_pos hk h
theorem nI_div {a d : Nat} (ha : a < 2 ^ 31) (h0 : 0 < d) (hd : d < 2 ^ 31) : nI a / nI d = nI (a / d) := pk_div ha h0 hd
theorem nI_mod {a d : Nat} (ha : a < 2 ^ 31) (h0 : 0 < d) (hd : d < 2 ^ 31) : nI a - nI a / nI d * nI d = nI (a % d) := pk_rem ha h0 hd
theorem i4 : (4 : Int32) = nI 4 := rfl
theorem i10 : (10 : Int32) = nI 10 := rfl
theorem i1 : (1 : Int32) = nI 1 := rfl
theorem i0 : (0 : Int32) = nI 0 := rfl
theorem i100 : (100 : Int32) = nI 100 := rfl
section PX
variable {n t : Nat} {f : FF} {v : VV} {post : Int32 → Prop} {posf : Int32 → FF → VV → Prop}
theorem q_hasStep {p : Int32} (hP : PI n t f v) (h1 : ∀ k, k < n → p = nI k → post 1) (h0 : (∀ k, k < n → p ≠ nI k) → post 0) : Q_X1_hasStep p f v post := by
  have hn := hP.1
  unfold Q_X1_hasStep
  rw [hP.2.2.1]
  refine ⟨fun c => h0 (fun k hk => nI_lt_ne c k (by omega)), fun c => ⟨fun c2 => h0 (nI_ge_ne (by omega) c2), fun c2 => ?_⟩⟩
  obtain ⟨j, hj, e⟩ := nI_rng (by omega) c c2
  exact h1 j hj e
theorem q_hasTest {p : Int32} (hP : PI n t f v) (h1 : ∀ k, k < t → p = nI k → post 1) (h0 : (∀ k, k < t → p ≠ nI k) → post 0) : Q_X1_hasTest p f v post := by
  have ht := hP.2.1
  unfold Q_X1_hasTest
  rw [hP.2.2.2.1]
  refine ⟨fun c => h0 (fun k hk => nI_lt_ne c k (by omega)), fun c => ⟨fun c2 => h0 (nI_ge_ne (by omega) c2), fun c2 => ?_⟩⟩
  obtain ⟨j, hj, e⟩ := nI_rng (by omega) c c2
  exact h1 j hj e
theorem q_mutants (hP : PI n t f v) (h : post (nI (4 * n))) : Q_X1_mutants f v post := by
  unfold Q_X1_mutants
  rw [hP.2.2.1, i4, pk_mul]
  exact h
theorem q_hasMutant {p : Int32} (hP : PI n t f v) (h1 : ∀ k, k < 4 * n → p = nI k → post 1) (h0 : (∀ k, k < 4 * n → p ≠ nI k) → post 0) : Q_X1_hasMutant p f v post := by
  have hn := hP.1
  unfold Q_X1_hasMutant
  refine ⟨fun c => h0 (fun k hk => nI_lt_ne c k (by omega)), fun c => q_mutants hP ⟨fun c2 => h0 (nI_ge_ne (by omega) c2), fun c2 => ?_⟩⟩
  obtain ⟨j, hj, e⟩ := nI_rng (by omega) c c2
  exact h1 j hj e
theorem q_isEmpty (hP : PI n t f v) (h1 : n = 0 → post 1) (h0 : n ≠ 0 → post 0) : Q_X1_isEmpty f v post := by
  have hn := hP.1
  unfold Q_X1_isEmpty
  rw [hP.2.2.1]
  refine ⟨fun c => h0 (fun e => c (by rw [e]; rfl)), fun c => h1 ?_⟩
  rw [i0, nI_eq (by omega) (by omega)] at c
  exact c
theorem q_allMutants (hP : PI n t f v) (h : post ((1 : Int32) <<< (nI (4 * n) &&& 31) - 1)) : Q_X1_allMutants f v post := by
  unfold Q_X1_allMutants
  exact q_mutants hP h
theorem q_stepOf {q : Nat} (hq : q < 2 ^ 31) (h : post (nI (q / 4))) : Q_X1_stepOf (nI q) f v post := by
  unfold Q_X1_stepOf
  rw [i4, nI_div hq (by omega) (by omega)]
  exact h
theorem q_otherWay {q : Nat} (hP : PI n t f v) (hq : q < 4 * n) (h : post (ow (f 0 (q / 4)) (q % 4))) : Q_X1_otherWay (nI q) f v post := by
  have hn := hP.1
  unfold Q_X1_otherWay
  intro x e
  rw [i4, nI_mod (by omega) (by omega) (by omega)] at e
  rw [i4, nI_div (by omega) (by omega) (by omega), nI_clamp (by omega), e]
  unfold ow at h
  refine ⟨vi_nI (by omega) (by omega), fun c => ?_, fun c => ?_⟩
  · rw [if_pos c] at h; exact h
  · rw [if_neg c] at h; exact h
def wgt (k t : Int32) : Int32 := if k = 0 then t else if k = 1 then t + 1 else 2 * t
theorem q_weight {j : Nat} (hP : PI n t f v) (hj : j < t) (h : post (wgt (f 3 j) (f 4 j))) : Q_X1_weight (nI j) f v post := by
  have ht := hP.2.1
  unfold Q_X1_weight
  rw [nI_clamp (by omega)]
  unfold wgt at h
  have hi : vp_in (nI j) 7 := vi_nI (by omega) (by omega)
  refine ⟨hi, ?_⟩
  refine ⟨fun c => ⟨hi, ?_⟩, fun c => ⟨fun c2 => ⟨hi, ?_⟩, fun c2 => ⟨hi, ?_⟩⟩⟩
  · rw [if_pos c] at h; exact h
  · rw [if_neg c, if_pos c2] at h; exact h
  · rw [if_neg c, if_neg c2] at h; exact h
/-- what a mutant's own step makes -/
def mval (w a b : Nat → Int32) (n : Nat) (x y : Int32) (q : Nat) : Int32 := mk (ow (w (q / 4)) (q % 4)) (tab w a b x y n (a (q / 4)).toNatClampNeg) (tab w a b x y n (b (q / 4)).toNatClampNeg)
def eff (w a b : Nat → Int32) (n : Nat) (x y : Int32) (q : Nat) : Int32 := if mval w a b n x y q = tab w a b x y n (q / 4) then 0 else if kill w a b n x y q = true then 2 else 1
theorem mw_lt {w : Nat → Int32} {q k : Nat} (h : k < q / 4) : mw w q k = w k := fu_ne (by omega)
theorem mw_at {w : Nat → Int32} {q : Nat} : mw w q (q / 4) = ow (w (q / 4)) (q % 4) := fu_eq _ _ _
theorem mw_ne {w : Nat → Int32} {q k : Nat} (h : k ≠ q / 4) : mw w q k = w k := fu_ne h
theorem q_eff_loop {q : Nat} {x y : Int32} {K : Int32 → Int32 → Int32 → FF → VV → Prop} {f0 : FF} {z1 z2 : Int32} (hP : PI n t f0 v) (hF : FG n x y f0)
    (hK : ∀ (x5 : Int32) (f : FF), (∀ j, j ≠ 8 → f j = f0 j) → K (out (mw (f0 0) q) (f0 1) (f0 2) x y n) (out (f0 0) (f0 1) (f0 2) x y n) x5 f v) :
    ∀ (d k : Nat) (x3 x4 : Int32) (f : FF), k + d = n → q / 4 < k → (∀ j, j ≠ 8 → f j = f0 j) → (∀ j, here k j → f 8 j = tab (mw (f0 0) q) (f0 1) (f0 2) x y k j) → x3 = tab (mw (f0 0) q) (f0 1) (f0 2) x y k (k - 1) → x4 = tab (f0 0) (f0 1) (f0 2) x y k (k - 1) → Q_X1_effect_L84 z1 z2 K (d + 1) x3 x4 (nI k) f v := by
  obtain ⟨hn, ht, e0, e1, hok⟩ := hP
  intro d
  induction d with
  | zero =>
    intro k x3 x4 f hk hqk hf h8 h3 h4
    rw [Q_X1_effect_L84]
    have hk : k = n := by omega
    subst hk
    refine ⟨fun c => ?_, fun c => absurd (by rw [e0]; exact Int32.le_refl _) c⟩
    have := hK (nI k) f hf
    unfold out at this
    rw [if_neg (by omega), if_neg (by omega), ← h3, ← h4] at this
    exact this
  | succ d ih =>
    intro k x3 x4 f hk hqk hf h8 h3 h4
    rw [Q_X1_effect_L84]
    have hkn : k < n := by omega
    have c4 : (nI k).toNatClampNeg = k := nI_clamp (by omega)
    refine ⟨fun c => ?_, fun c => ?_⟩
    · rw [e0, le_nI (by omega) (by omega)] at c
      omega
    · rw [c4, hf 1 (by decide), hf 2 (by decide), hf 0 (by decide)]
      obtain ⟨o1, o2⟩ := hok k hkn
      refine ⟨vi_nI (by omega) (by omega), vi_nI (by omega) (by omega), o1.in7 (by omega), vi_nI (by omega) (by omega), o2.in7 (by omega), q_make ?_⟩
      refine ⟨vi_nI (by omega) (by omega), fun f' ef => ⟨vi_nI (by omega) (by omega), fun x' ex y' ey => ?_⟩⟩
      rw [ey, nI_1]
      rw [h8 _ (o1.here (by omega)), h8 _ (o2.here (by omega))] at ef ⊢
      refine ih (k + 1) _ _ f' (by omega) (by omega) ?_ ?_ ?_ ?_
      · intro j hj
        rw [ef, fu_ne hj]
        exact hf j hj
      · intro j hj
        rw [ef, fu_eq]
        show upd (f 8) (nI k).toNatClampNeg _ j = (if j = k then _ else _)
        rw [c4]
        by_cases hjk : j = k
        · rw [if_pos hjk, hjk, upd_eq, mw_ne (by omega)]
        · rw [if_neg hjk, upd_ne hjk]
          exact h8 j (by unfold here at hj ⊢; omega)
      · show _ = (if k + 1 - 1 = k then _ else _)
        rw [if_pos (by omega), mw_ne (by omega)]
      · rw [ex, ef, fu_ne (by decide), hf 7 (by decide)]
        show f0 7 k = _
        rw [hF k (by unfold here; omega)]
        exact tab_in (by omega) (by omega) k (by unfold here; omega)
theorem tab_mw {w a b : Nat → Int32} {x y : Int32} {q : Nat} : tab (mw w q) a b x y (q / 4) = tab w a b x y (q / 4) := tab_cong (fun k hk => mw_lt hk)
/-- a step that makes the same leaves all the same -/
theorem tab_same {w a b : Nat → Int32} {x y : Int32} {q n : Nat} (hn : n ≤ 5) (hq : q / 4 < n) (hok : ∀ k, k < n → okSrc (a k) k ∧ okSrc (b k) k) (he : mval w a b n x y q = tab w a b x y n (q / 4)) : ∀ m, m ≤ n → ∀ j, tab (mw w q) a b x y m j = tab w a b x y m j := by
  intro m
  induction m with
  | zero => intro _ _; rfl
  | succ m ih =>
    intro hm j
    have ih := ih (by omega)
    show (if j = m then mk (mw w q m) _ _ else tab (mw w q) a b x y m j) = (if j = m then mk (w m) _ _ else tab w a b x y m j)
    by_cases hjm : j = m
    · rw [if_pos hjm, if_pos hjm, ih, ih]
      by_cases hmq : m = q / 4
      · subst hmq
        rw [mw_at]
        have e1 : tab w a b x y n (q / 4) = tab w a b x y (q / 4 + 1) (q / 4) := tab_in (by omega) hn _ (by unfold here; omega)
        have e2 : tab w a b x y (q / 4 + 1) (q / 4) = mk (w (q / 4)) (tab w a b x y (q / 4) (a (q / 4)).toNatClampNeg) (tab w a b x y (q / 4) (b (q / 4)).toNatClampNeg) := if_pos rfl
        rw [← e2, ← e1, ← he]
        unfold mval
        rw [tab_in (k := q / 4) (m := n) (by omega) hn _ ((hok _ hq).1.here (by omega)), tab_in (k := q / 4) (m := n) (by omega) hn _ ((hok _ hq).2.here (by omega))]
      · rw [mw_ne hmq]
    · rw [if_neg hjm, if_neg hjm, ih]
theorem eff_2 {w a b : Nat → Int32} {x y : Int32} {q n : Nat} (hn : n ≤ 5) (hq : q < 4 * n) (hok : ∀ k, k < n → okSrc (a k) k ∧ okSrc (b k) k) : eff w a b n x y q = 2 ↔ kill w a b n x y q = true := by
  unfold eff
  by_cases h : mval w a b n x y q = tab w a b x y n (q / 4)
  · rw [if_pos h]
    have hs := tab_same hn (by omega) hok h n (Nat.le_refl n)
    have : kill w a b n x y q = false := by
      unfold kill out
      rw [if_neg (by omega), if_neg (by omega), hs]
      simp
    rw [this]
    simp
  · rw [if_neg h]
    by_cases h2 : kill w a b n x y q = true
    · rw [if_pos h2]; simp [h2]
    · rw [if_neg h2]; simp [h2]
theorem q_effect {q : Nat} {x y : Int32} (hP : PI n t f v) (hF : FG n x y f) (hq : q < 4 * n) (h : ∀ f' : FF, (∀ j, j ≠ 8 → f' j = f j) → posf (eff (f 0) (f 1) (f 2) n x y q) f' v) : Q_X1_effect (nI q) f v posf := by
  have hP0 := hP
  obtain ⟨hn, ht, e0, e1, hok⟩ := hP
  obtain ⟨o1, o2⟩ := hok (q / 4) (by omega)
  have c4 : (nI (q / 4)).toNatClampNeg = q / 4 := nI_clamp (by omega)
  have hv5 : vp_in (nI (q / 4)) 5 := vi_nI (by omega) (by omega)
  have hv7 : vp_in (nI (q / 4)) 7 := vi_nI (by omega) (by omega)
  have up1 : ∀ j, here (q / 4) j → here n j := fun j hj => by unfold here at hj ⊢; omega
  have F1 := hF _ (up1 _ (o1.here (by omega)))
  have F2 := hF _ (up1 _ (o2.here (by omega)))
  have F3 := hF (q / 4) (by unfold here; omega)
  unfold Q_X1_effect
  refine q_stepOf (by omega) (q_otherWay hP0 hq ?_)
  rw [c4]
  refine ⟨hv5, o1.in7 (by omega), hv5, o2.in7 (by omega), q_make ⟨hv7, fun c => ?_, fun c => ?_⟩⟩
  · refine ⟨by decide, by decide, by decide, by decide, by decide, fun f1 ef1 => ⟨hv7, fun f2 ef2 => ⟨hv7, fun x1 ex1 x2 ex2 => ?_⟩⟩⟩
    rw [ex2, nI_1]
    refine ⟨n - (q / 4 + 1) + 1, ?_⟩
    rw [F1, F2, F3] at c
    have g1 : ∀ j, j ≠ 8 → f2 j = f j := fun j hj => by rw [ef2, fu_ne hj, ef1, fu_ne hj]
    refine q_eff_loop (q := q) (x := x) (y := y) hP0 hF (fun x5 f' hf' => ?_) (n - (q / 4 + 1)) (q / 4 + 1) _ _ f2 (by omega) (by omega) g1 ?_ ?_ ?_
    · have := h f' hf'
      unfold eff at this
      rw [if_neg (by unfold mval; exact c)] at this
      refine ⟨fun c2 => ?_, fun c2 => ?_⟩
      · rw [if_pos (by unfold kill; exact decide_eq_true c2)] at this
        exact this
      · rw [if_neg (by unfold kill; simp [c2])] at this
        exact this
    · intro j hj
      rw [ef2, fu_eq, ef1, fu_eq]
      show upd _ (nI (q / 4)).toNatClampNeg _ j = _
      rw [c4]
      show upd _ (q / 4) _ j = (if j = q / 4 then _ else _)
      by_cases hjq : j = q / 4
      · rw [if_pos hjq, hjq, upd_eq, F1, F2, mw_at, tab_mw, tab_in (k := q / 4) (m := n) (by omega) hn _ (o1.here (by omega)), tab_in (k := q / 4) (m := n) (by omega) hn _ (o2.here (by omega))]
      · have hj2 : here (q / 4) j := by unfold here at hj ⊢; omega
        rw [if_neg hjq, upd_ne hjq, tab_mw]
        show va_cpy (f 7) (f 8) 0 0 7 j = _
        rw [sb_cpy0 (by unfold here at hj2; omega), hF j (up1 j hj2)]
        exact tab_in (by omega) hn j hj2
    · show _ = (if q / 4 + 1 - 1 = q / 4 then _ else _)
      rw [if_pos (by omega), F1, F2, mw_at, tab_mw, tab_in (k := q / 4) (m := n) (by omega) hn _ (o1.here (by omega)), tab_in (k := q / 4) (m := n) (by omega) hn _ (o2.here (by omega))]
    · rw [ex1, g1 7 (by decide), F3]
      exact tab_in (by omega) hn (q / 4) (by unfold here; omega)
  · have := h f (fun _ _ => rfl)
    unfold eff mval at this
    rw [F1, F2, F3] at c
    rw [if_pos c] at this
    exact this
end PX
section PY
variable {n t : Nat} {f : FF} {v : VV} {post : Int32 → Prop} {posf : Int32 → FF → VV → Prop}
theorem FG.sm {x y : Int32} {f f' : FF} (h : FG n x y f) (hs : ∀ j, j ≠ 8 → f' j = f j) : FG n x y f' := by
  intro j hj
  rw [hs 7 (by decide), hs 0 (by decide), hs 1 (by decide), hs 2 (by decide)]
  exact h j hj
theorem q_ka_loop {m : Nat} {x y set : Int32} {K : Int32 → Int32 → FF → VV → Prop} {f0 : FF} (hP : PI n t f0 v) (hF : FG n x y f0) (hm : m = 4 * n)
    (hK : ∀ (x3 : Int32) (f : FF), (∀ j, j ≠ 8 → f j = f0 j) → K (bs (fun q => bt set q && kill (f0 0) (f0 1) (f0 2) n x y q) m) x3 f v) :
    ∀ (d k : Nat) (f : FF), k + d = m → (∀ j, j ≠ 8 → f j = f0 j) → Q_X1_killedAmong_L4 set K (d + 1) (bs (fun q => bt set q && kill (f0 0) (f0 1) (f0 2) n x y q) k) (nI k) f v := by
  have hn := hP.1
  have hok := hP.2.2.2.2
  intro d
  induction d with
  | zero =>
    intro k f hk hf
    rw [Q_X1_killedAmong_L4]
    have hPf : PI n t f v := hP.sm (fun j _ h => hf j h)
    refine q_mutants hPf ⟨fun c => ?_, fun c => absurd (by rw [show k = 4 * n by omega]; exact Int32.le_refl _) c⟩
    rw [show k = m by omega]
    exact hK _ f hf
  | succ d ih =>
    intro k f hk hf
    rw [Q_X1_killedAmong_L4]
    have hPf : PI n t f v := hP.sm (fun j _ h => hf j h)
    have hFf : FG n x y f := hF.sm hf
    refine q_mutants hPf ⟨fun c => ?_, fun c => ?_⟩
    · rw [le_nI (by omega) (by omega)] at c
      omega
    · rw [shr1 set (by omega)]
      have e0 : f 0 = f0 0 := hf 0 (by decide)
      have e1 : f 1 = f0 1 := hf 1 (by decide)
      have e2 : f 2 = f0 2 := hf 2 (by decide)
      refine ⟨fun c2 x' ex => ?_, fun c2 => q_effect hPf hFf (by omega) (fun f' hf' => ?_)⟩
      · rw [ex, nI_1]
        have hb : bt set k = false := by
          by_cases hb : bt set k = true
          · rw [if_pos hb] at c2; exact absurd c2 (by decide)
          · simpa using hb
        have := ih (k + 1) f (by omega) hf
        rw [bs, hb, Bool.false_and, if_neg (by decide)] at this
        rw [show (bs (fun q => bt set q && kill (f0 0) (f0 1) (f0 2) n x y q) k ||| (0 : Int32)) = bs (fun q => bt set q && kill (f0 0) (f0 1) (f0 2) n x y q) k from by apply b_ext; intro i hi; rw [b_or, b_0, Bool.or_false]] at this
        exact this
      · have hb : bt set k = true := by
          by_cases hb : bt set k = true
          · exact hb
          · rw [if_neg hb] at c2; exact absurd rfl c2
        have hf2 : ∀ j, j ≠ 8 → f' j = f0 j := fun j hj => (hf' j hj).trans (hf j hj)
        rw [e0, e1, e2]
        have hk2 := eff_2 (w := f0 0) (a := f0 1) (b := f0 2) (x := x) (y := y) (q := k) (n := n) hn (by omega) hok
        have := ih (k + 1) f' (by omega) hf2
        rw [bs, hb, Bool.true_and] at this
        refine ⟨fun c3 x' ex => ?_, fun c3 x1 ex1 x2 ex2 => ?_⟩
        · rw [ex, nI_1]
          rw [if_neg (fun z => c3 (hk2.mpr z))] at this
          rw [show (bs (fun q => bt set q && kill (f0 0) (f0 1) (f0 2) n x y q) k ||| (0 : Int32)) = bs (fun q => bt set q && kill (f0 0) (f0 1) (f0 2) n x y q) k from by apply b_ext; intro i hi; rw [b_or, b_0, Bool.or_false]] at this
          exact this
        · rw [ex1, ex2, nI_1]
          rw [if_pos (hk2.mp c3)] at this
          exact this
theorem q_killedAmong {x y set : Int32} (hP : PI n t f v) (hF : FG n x y f) (h : ∀ f' : FF, (∀ j, j ≠ 8 → f' j = f j) → posf (bs (fun q => bt set q && kill (f 0) (f 1) (f 2) n x y q) (4 * n)) f' v) : Q_X1_killedAmong set f v posf := by
  unfold Q_X1_killedAmong
  exact ⟨4 * n + 1, q_ka_loop hP hF rfl (fun _ f' hf => h f' hf) (4 * n) 0 f (by omega) (fun _ _ => rfl)⟩
theorem q_runTest {j : Nat} (hP : PI n t f v) (hj : j < t) (h : ∀ f' : FF, (∀ i, i ≠ 7 → f' i = f i) → FG n (f 5 j) (f 6 j) f' → posf (out (f 0) (f 1) (f 2) (f 5 j) (f 6 j) n) f' v) : Q_X1_runTest (nI j) f v posf := by
  have ht := hP.2.1
  unfold Q_X1_runTest
  rw [nI_clamp (by omega)]
  exact ⟨vi_nI (by omega) (by omega), vi_nI (by omega) (by omega), q_run hP h⟩
/-- which mutants a test kills -/
def kt' (f : FF) (n j : Nat) : Nat → Bool := kill (f 0) (f 1) (f 2) n (f 5 j) (f 6 j)
theorem sm78 {f f1 f2 : FF} (h1 : ∀ i, i ≠ 7 → f1 i = f i) (h2 : ∀ i, i ≠ 8 → f2 i = f1 i) : Sm f f2 := fun j a b => (h2 j b).trans (h1 j a)
theorem q_killedByTest {j : Nat} (hP : PI n t f v) (hj : j < t) (h : ∀ f' : FF, Sm f f' → posf (bs (kt' f n j) (4 * n)) f' v) : Q_X1_killedByTest (nI j) f v posf := by
  have hn := hP.1
  unfold Q_X1_killedByTest
  refine q_runTest hP hj (fun f1 h1 hF => ?_)
  have hP1 : PI n t f1 v := hP.sm (fun j a _ => h1 j a)
  refine q_allMutants hP1 (q_killedAmong hP1 hF (fun f2 h2 => ?_))
  have := h f2 (sm78 h1 h2)
  rw [h1 0 (by decide), h1 1 (by decide), h1 2 (by decide)]
  unfold kt' at this
  rw [bs_cong (q := kill (f 0) (f 1) (f 2) n (f 5 j) (f 6 j))]
  · exact this
  · intro k hk
    rw [bs_all (4 * n) (by omega), bt_bs _ _ (by omega) k (by omega), decide_eq_true hk]
    rfl
/-- told apart by one of the first k inputs -/
def anyK (f : FF) (n k q : Nat) : Bool := (List.range k).any (fun xy => kill (f 0) (f 1) (f 2) n (nI (xy / 10)) (nI (xy % 10)) q)
theorem anyK_s (f : FF) (n k q : Nat) : anyK f n (k + 1) q = (anyK f n k q || kill (f 0) (f 1) (f 2) n (nI (k / 10)) (nI (k % 10)) q) := by
  unfold anyK
  rw [List.range_succ, List.any_append]
  simp
theorem anyK_mono {f : FF} {n k m q : Nat} (h : k ≤ m) (hk : anyK f n k q = true) : anyK f n m q = true := by
  obtain ⟨d, rfl⟩ := Nat.exists_eq_add_of_le h
  clear h
  induction d with
  | zero => exact hk
  | succ d ih => rw [← Nat.add_assoc, anyK_s, ih]; rfl
theorem anyK_sm {f f' : FF} (h : Sm f f') (n k q : Nat) : anyK f' n k q = anyK f n k q := by
  unfold anyK
  rw [h 0 (by decide) (by decide), h 1 (by decide) (by decide), h 2 (by decide) (by decide)]
theorem q_um_loop {K : Int32 → Int32 → FF → VV → Prop} {f0 : FF} (hP : PI n t f0 v)
    (hK : ∀ (x1 x2 : Int32) (f : FF), Sm f0 f → x1 = bs (fun q => !anyK f0 n 100 q) (4 * n) → K x1 x2 f v) :
    ∀ (d k : Nat) (f : FF), k + d = 100 → Sm f0 f → Q_X1_unequalMutants_L7 K (d + 1) (bs (fun q => !anyK f0 n k q) (4 * n)) (nI k) f v := by
  have hn := hP.1
  have fin : ∀ (k : Nat) (x2 : Int32) (f : FF), k ≤ 100 → Sm f0 f → bs (fun q => !anyK f0 n k q) (4 * n) = 0 → K (bs (fun q => !anyK f0 n k q) (4 * n)) x2 f v := by
    intro k x2 f hk hf hz
    refine hK _ _ f hf ?_
    rw [bs_zero (by omega)] at hz
    refine bs_cong (fun q hq => ?_)
    have h1 : anyK f0 n k q = true := by have := hz q hq; simpa using this
    rw [h1, anyK_mono hk h1]
  intro d
  induction d with
  | zero =>
    intro k f hk hf
    rw [Q_X1_unequalMutants_L7]
    have hk : k = 100 := by omega
    subst hk
    exact ⟨fun _ => hK _ _ f hf rfl, fun c => absurd (by decide) c⟩
  | succ d ih =>
    intro k f hk hf
    rw [Q_X1_unequalMutants_L7]
    refine ⟨fun c => ?_, fun _ => ⟨fun c => fin k _ f (by omega) hf c, fun _ => ?_⟩⟩
    · rw [i100, le_nI (by omega) (by omega)] at c; omega
    · have hPf := hP.sm hf
      rw [i10, nI_mod (by omega) (by omega) (by omega), nI_div (by omega) (by omega) (by omega)]
      refine q_run hPf (fun f1 h1 hF => ?_)
      have hP1 : PI n t f1 v := hPf.sm (fun j a _ => h1 j a)
      refine q_killedAmong hP1 hF (fun f2 h2 x1 e1 x2 e2 => ?_)
      have hf2 : Sm f0 f2 := hf.tr (sm78 h1 h2)
      rw [e2, nI_1]
      have := ih (k + 1) f2 (by omega) hf2
      have ee : x1 = bs (fun q => !anyK f0 n (k + 1) q) (4 * n) := by
        rw [e1, bs_diff (by omega)]
        refine bs_cong (fun q hq => ?_)
        rw [bt_bs _ _ (by omega) q (by omega), decide_eq_true hq, anyK_s, h1 0 (by decide), h1 1 (by decide), h1 2 (by decide), hf 0 (by decide) (by decide), hf 1 (by decide) (by decide), hf 2 (by decide) (by decide)]
        cases anyK f0 n k q <;> cases kill (f0 0) (f0 1) (f0 2) n (nI (k / 10)) (nI (k % 10)) q <;> rfl
      rw [ee]
      exact this
theorem q_unequalMutants (hP : PI n t f v) (h : ∀ f' : FF, Sm f f' → posf (bs (anyK f n 100) (4 * n)) f' v) : Q_X1_unequalMutants f v posf := by
  have hn := hP.1
  unfold Q_X1_unequalMutants
  refine q_allMutants hP ⟨101, ?_⟩
  rw [bs_all (4 * n) (by omega)]
  have := q_um_loop (K := (fun x_13 x_14 f_15 v_16 => (Q_X1_allMutants f_15 v_16 (fun r_17 => (posf (r_17 &&& (x_13 ^^^ (-1 : Int32))) f_15 v_16))))) hP (fun x1 x2 f' hf e => ?_) 100 0 f (by omega) Sm.rf
  · exact this
  · refine q_allMutants (hP.sm hf) ?_
    rw [bs_all (4 * n) (by omega), e, bs_diff (by omega)]
    have := h f' hf
    rw [bs_cong (q := anyK f n 100)]
    · exact this
    · intro q _
      cases anyK f n 100 q <;> rfl
/-- for how many of the first k inputs a mutant is told from the program -/
def cntK (f : FF) (n q : Nat) : Nat → Nat
  | 0 => 0
  | k + 1 => cntK f n q k + (if kill (f 0) (f 1) (f 2) n (nI (k / 10)) (nI (k % 10)) q = true then 1 else 0)
theorem cntK_le (f : FF) (n q : Nat) : ∀ k, cntK f n q k ≤ k
  | 0 => Nat.le_refl 0
  | k + 1 => by
    have := cntK_le f n q k
    rw [cntK]
    split <;> omega
theorem q_df_loop {q : Nat} {K : Int32 → Int32 → FF → VV → Prop} {f0 : FF} (hP : PI n t f0 v) (hq : q < 4 * n)
    (hK : ∀ (x3 : Int32) (f : FF), Sm f0 f → K (nI (cntK f0 n q 100)) x3 f v) :
    ∀ (d k : Nat) (f : FF), k + d = 100 → Sm f0 f → Q_X1_differences_L4 (nI q) K (d + 1) (nI (cntK f0 n q k)) (nI k) f v := by
  have hn := hP.1
  have hok := hP.2.2.2.2
  intro d
  induction d with
  | zero =>
    intro k f hk hf
    rw [Q_X1_differences_L4]
    have hk : k = 100 := by omega
    subst hk
    exact ⟨fun _ => hK _ f hf, fun c => absurd (by decide) c⟩
  | succ d ih =>
    intro k f hk hf
    rw [Q_X1_differences_L4]
    refine ⟨fun c => ?_, fun _ => ?_⟩
    · rw [i100, le_nI (by omega) (by omega)] at c; omega
    · have hPf := hP.sm hf
      rw [i10, nI_mod (by omega) (by omega) (by omega), nI_div (by omega) (by omega) (by omega)]
      refine q_run hPf (fun f1 h1 hF => ?_)
      have hP1 : PI n t f1 v := hPf.sm (fun j a _ => h1 j a)
      refine q_effect hP1 hF hq (fun f2 h2 => ?_)
      have hf2 : Sm f0 f2 := hf.tr (sm78 h1 h2)
      have := ih (k + 1) f2 (by omega) hf2
      rw [cntK] at this
      rw [h1 0 (by decide), h1 1 (by decide), h1 2 (by decide), hf 0 (by decide) (by decide), hf 1 (by decide) (by decide), hf 2 (by decide) (by decide)]
      have hk2 := eff_2 (w := f0 0) (a := f0 1) (b := f0 2) (x := nI (k / 10)) (y := nI (k % 10)) (q := q) (n := n) hn hq hok
      refine ⟨fun c x' ex => ?_, fun c x1 e1 x2 e2 => ?_⟩
      · rw [ex, nI_1]
        rw [if_neg (fun z => c (hk2.mpr z))] at this
        exact this
      · rw [e1, e2, nI_1, nI_1]
        rw [if_pos (hk2.mp c)] at this
        exact this
theorem q_differences {q : Nat} (hP : PI n t f v) (hq : q < 4 * n) (h : ∀ f' : FF, Sm f f' → posf (nI (cntK f n q 100)) f' v) : Q_X1_differences (nI q) f v posf := by
  unfold Q_X1_differences
  exact ⟨101, q_df_loop hP hq (fun _ f' hf => h f' hf) 100 0 f (by omega) Sm.rf⟩
end PY
/-! ===== Kills ===== -/
/-- Integer.bitCount, as it is written -/
def pcnt (p : Int32) : Int32 :=
  (fun x1 : Int32 => (fun x2 : Int32 => (fun x3 : Int32 => (fun x4 : Int32 => (fun x5 : Int32 => x5 &&& 63) (x4 + (x4.toUInt32 >>> ((16 : Int32).toUInt32 &&& Int32.toUInt32 31)).toInt32)) (x3 + (x3.toUInt32 >>> ((8 : Int32).toUInt32 &&& Int32.toUInt32 31)).toInt32)) ((x2 + (x2.toUInt32 >>> ((4 : Int32).toUInt32 &&& Int32.toUInt32 31)).toInt32) &&& 252645135)) ((x1 &&& 858993459) + ((x1.toUInt32 >>> ((2 : Int32).toUInt32 &&& Int32.toUInt32 31)).toInt32 &&& 858993459))) (p - ((p.toUInt32 >>> ((1 : Int32).toUInt32 &&& Int32.toUInt32 31)).toInt32 &&& 1431655765))
theorem q_bitCount {x : Int32} {post : Int32 → Prop} (h : post (pcnt x)) : Q_J6_bitCount_0f7a4 x post := by
  unfold Q_J6_bitCount_0f7a4
  intro x1 e1 x2 e2 x3 e3 x4 e4 x5 e5
  subst e1; subst e2; subst e3; subst e4; subst e5
  exact h
def KI (t m : Nat) (v : VV) : Prop := t ≤ 7 ∧ m ≤ 20 ∧ v 0 = nI t ∧ v 1 = nI m
def sub (B : Nat → Int32) (q by_ : Nat) : Bool := decide (¬ B by_ = 0 ∧ (B by_ &&& (B q ^^^ (-1))) = 0)
section KX
variable {t m : Nat} {f : FF} {v : VV} {post : Int32 → Prop} {posf : Int32 → FF → VV → Prop}
theorem q_isSubsumed {q r : Nat} (hK : KI t m v) (hq : q < m) (hr : r < m) (h1 : sub (f 1) q r = true → post 1) (h0 : sub (f 1) q r = false → post 0) : Q_X0_isSubsumed (nI q) (nI r) f v post := by
  have hm := hK.2.1
  unfold Q_X0_isSubsumed
  rw [nI_clamp (by omega), nI_clamp (by omega)]
  unfold sub at h1 h0
  have vq : vp_in (nI q) 20 := vi_nI (by omega) (by omega)
  have vr : vp_in (nI r) 20 := vi_nI (by omega) (by omega)
  exact ⟨vr, fun c => h0 (decide_eq_false (fun z => z.1 c)), fun c => ⟨vr, vq, fun c2 => h0 (decide_eq_false (fun z => c2 z.2)), fun c2 => h1 (decide_eq_true ⟨c, c2⟩)⟩⟩
theorem q_cs_loop {q : Nat} {K : Int32 → Int32 → Prop} (hK : KI t m v) (hq : q < m) (hE : ∀ x3, K (nI (fb_ct (fun k => sub (f 1) k q) m)) x3) :
    ∀ (d k : Nat), k + d = m → Q_X0_countSubsumed_L4 f v (nI q) K (d + 1) (nI (fb_ct (fun k => sub (f 1) k q) k)) (nI k) := by
  have hm := hK.2.1
  have e1 := hK.2.2.2
  intro d
  induction d with
  | zero =>
    intro k hk
    rw [Q_X0_countSubsumed_L4, e1, show k = m by omega]
    exact ⟨fun _ => hE _, fun c => absurd (Int32.le_refl _) c⟩
  | succ d ih =>
    intro k hk
    rw [Q_X0_countSubsumed_L4, e1]
    have := ih (k + 1) (by omega)
    rw [fb_ct_succ] at this
    refine ⟨fun c => absurd ((le_nI (by omega) (by omega)).mp c) (by omega), fun _ => q_isSubsumed hK (by omega) hq (fun hs => ⟨fun c => absurd c (by decide), fun _ x1 ex1 x2 ex2 => ?_⟩) (fun hs => ⟨fun _ x1 ex1 => ?_, fun c => absurd rfl c⟩)⟩
    · rw [ex1, ex2, nI_1, nI_1]; rw [hs, if_pos rfl] at this; exact this
    · rw [ex1, nI_1]; rw [hs, if_neg (by decide)] at this; exact this
theorem q_countSubsumed {q : Nat} (hK : KI t m v) (hq : q < m) (h : post (nI (fb_ct (fun k => sub (f 1) k q) m))) : Q_X0_countSubsumed (nI q) f v post := ⟨m + 1, q_cs_loop hK hq (fun _ => h) m 0 (by omega)⟩
/-- no other one in the way, of those from k on -/
def noBy (B : Nat → Int32) (q r : Nat) : Bool := !(sub B q r && (decide (¬ B r = B q) || decide (r < q)))
theorem q_il_loop {q : Nat} {K0 K1 : Int32 → Prop} (hK : KI t m v) (hq : q < m) (h1 : (∀ r, r < m → noBy (f 1) q r = true) → ∀ x, K1 x) (h0 : (∃ r, r < m ∧ noBy (f 1) q r = false) → ∀ x, K0 x) :
    ∀ (d k : Nat), k + d = m → (∀ r, r < k → noBy (f 1) q r = true) → Q_X0_isLeast_L13 f v (nI q) K0 K1 (d + 1) (nI k) := by
  have hm := hK.2.1
  have e1 := hK.2.2.2
  intro d
  induction d with
  | zero =>
    intro k hk ha
    rw [Q_X0_isLeast_L13, e1, show k = m by omega]
    refine ⟨fun _ => h1 (fun r hr => ha r (by omega)) _, fun c => absurd (Int32.le_refl _) c⟩
  | succ d ih =>
    intro k hk ha
    rw [Q_X0_isLeast_L13, e1]
    have go : noBy (f 1) q k = true → Q_X0_isLeast_L13 f v (nI q) K0 K1 (d + 1) (nI (k + 1)) := fun hn => ih (k + 1) (by omega) (fun r hr => by
      rcases (show r < k ∨ r = k by omega) with h | h
      · exact ha r h
      · rw [h]; exact hn)
    have vk : vp_in (nI k) 20 := vi_nI (by omega) (by omega)
    have vq : vp_in (nI q) 20 := vi_nI (by omega) (by omega)
    refine ⟨fun c => absurd ((le_nI (by omega) (by omega)).mp c) (by omega), fun _ => q_isSubsumed hK hq (by omega) (fun hs => ⟨fun c => absurd c (by decide), fun _ => ⟨vk, vq, ?_⟩⟩) (fun hs => ⟨fun _ x1 ex1 => ?_, fun c => absurd rfl c⟩)⟩
    · rw [nI_clamp (by omega), nI_clamp (by omega)]
      refine ⟨fun c => h0 ⟨k, by omega, ?_⟩ _, fun c => ⟨fun c2 x1 ex1 => ?_, fun c2 => h0 ⟨k, by omega, ?_⟩ _⟩⟩
      · unfold noBy; rw [hs, decide_eq_true c]; rfl
      · rw [ex1, nI_1]
        rw [le_nI (by omega) (by omega)] at c2
        exact go (by unfold noBy; rw [hs, decide_eq_false (not_not_intro c), decide_eq_false (by omega)]; rfl)
      · rw [le_nI (by omega) (by omega)] at c2
        unfold noBy; rw [hs, decide_eq_true (show k < q by omega)]; simp
    · rw [ex1, nI_1]
      exact go (by unfold noBy; rw [hs]; rfl)
/-- LEAST -/
def least (B : Nat → Int32) (m q : Nat) : Bool := decide (¬ B q = 0) && (List.range m).all (fun r => noBy B q r)
theorem q_isLeast {q : Nat} (hK : KI t m v) (hq : q < m) (h1 : least (f 1) m q = true → post 1) (h0 : least (f 1) m q = false → post 0) : Q_X0_isLeast (nI q) f v post := by
  have hm := hK.2.1
  unfold Q_X0_isLeast
  rw [nI_clamp (by omega)]
  refine ⟨vi_nI (by omega) (by omega), fun c => ⟨m + 1, q_il_loop hK hq (fun ha _ => h1 ?_) (fun hx _ => h0 ?_) m 0 (by omega) (fun r hr => by omega)⟩, fun c => h0 ?_⟩
  · unfold least; rw [decide_eq_true c, Bool.true_and, List.all_eq_true]
    exact fun r hr => ha r (List.mem_range.mp hr)
  · obtain ⟨r, hr, hn⟩ := hx
    unfold least
    have : (List.range m).all (fun r => noBy (f 1) q r) = false := by
      rw [List.all_eq_false]
      exact ⟨r, List.mem_range.mpr hr, by simp [hn]⟩
    rw [this, Bool.and_false]
  · unfold least; rw [decide_eq_false (not_not_intro c), Bool.false_and]
theorem q_cl_loop {K : Int32 → Int32 → Prop} (hK : KI t m v) (hE : ∀ x2, K (nI (fb_ct (least (f 1) m) m)) x2) :
    ∀ (d k : Nat), k + d = m → Q_X0_countLeast_L4 f v K (d + 1) (nI (fb_ct (least (f 1) m) k)) (nI k) := by
  have hm := hK.2.1
  have e1 := hK.2.2.2
  intro d
  induction d with
  | zero =>
    intro k hk
    rw [Q_X0_countLeast_L4, e1, show k = m by omega]
    exact ⟨fun _ => hE _, fun c => absurd (Int32.le_refl _) c⟩
  | succ d ih =>
    intro k hk
    rw [Q_X0_countLeast_L4, e1]
    have := ih (k + 1) (by omega)
    rw [fb_ct_succ] at this
    refine ⟨fun c => absurd ((le_nI (by omega) (by omega)).mp c) (by omega), fun _ => q_isLeast hK (by omega) (fun hs => ⟨fun c => absurd c (by decide), fun _ x1 ex1 x2 ex2 => ?_⟩) (fun hs => ⟨fun _ x1 ex1 => ?_, fun c => absurd rfl c⟩)⟩
    · rw [ex1, ex2, nI_1, nI_1]; rw [hs, if_pos rfl] at this; exact this
    · rw [ex1, nI_1]; rw [hs, if_neg (by decide)] at this; exact this
theorem q_countLeast (hK : KI t m v) (h : post (nI (fb_ct (least (f 1) m) m))) : Q_X0_countLeast f v post := ⟨m + 1, q_cl_loop hK (fun _ => h) m 0 (by omega)⟩
/-- HARDEST of the first k: the number and how many kill it -/
def hard (B : Nat → Int32) : Nat → Int32 × Int32
  | 0 => (-9, 8)
  | k + 1 => if pcnt (B k) ≤ 0 ∨ (hard B k).2 ≤ pcnt (B k) then hard B k else (nI k, pcnt (B k))
theorem q_hm_loop {K : Int32 → Int32 → Int32 → Prop} (hK : KI t m v) (hE : ∀ x2 x3, K (hard (f 1) m).1 x2 x3) :
    ∀ (d k : Nat), k + d = m → Q_X0_hardestMutant_L8 f v K (d + 1) (hard (f 1) k).1 (hard (f 1) k).2 (nI k) := by
  have hm := hK.2.1
  have e1 := hK.2.2.2
  intro d
  induction d with
  | zero =>
    intro k hk
    rw [Q_X0_hardestMutant_L8, e1, show k = m by omega]
    exact ⟨fun _ => hE _ _, fun c => absurd (Int32.le_refl _) c⟩
  | succ d ih =>
    intro k hk
    rw [Q_X0_hardestMutant_L8, e1]
    have := ih (k + 1) (by omega)
    rw [hard] at this
    refine ⟨fun c => absurd ((le_nI (by omega) (by omega)).mp c) (by omega), fun _ => ⟨vi_nI (by omega) (by omega), q_bitCount ?_⟩⟩
    rw [nI_clamp (by omega)]
    refine ⟨fun c x1 ex1 => ?_, fun c => ⟨fun c2 x1 ex1 => ?_, fun c2 x1 ex1 => ?_⟩⟩
    · rw [ex1, nI_1]; rw [if_pos (Or.inl c)] at this; exact this
    · rw [ex1, nI_1]; rw [if_pos (Or.inr c2)] at this; exact this
    · rw [ex1, nI_1]; rw [if_neg (fun z => z.elim c c2)] at this; exact this
theorem q_hardestMutant (hK : KI t m v) (h : post (hard (f 1) m).1) : Q_X0_hardestMutant f v post := ⟨m + 1, q_hm_loop hK (fun _ _ => h) m 0 (by omega)⟩
/-- what a set weighs -/
def sumW (W : Nat → Int32) (S : Int32) : Nat → Int32
  | 0 => 0
  | k + 1 => sumW W S k + ((S >>> (nI k &&& 31)) &&& 1) * W k
theorem q_wo_loop {S : Int32} {K : Int32 → Int32 → Prop} (hK : KI t m v) (hE : ∀ x3, K (sumW (f 2) S t) x3) :
    ∀ (d k : Nat), k + d = t → Q_X0_weightOf_L4 f v S K (d + 1) (sumW (f 2) S k) (nI k) := by
  have ht := hK.1
  have e1 := hK.2.2.1
  intro d
  induction d with
  | zero =>
    intro k hk
    rw [Q_X0_weightOf_L4, e1, show k = t by omega]
    exact ⟨fun _ => hE _, fun c => absurd (Int32.le_refl _) c⟩
  | succ d ih =>
    intro k hk
    rw [Q_X0_weightOf_L4, e1]
    have := ih (k + 1) (by omega)
    rw [sumW] at this
    refine ⟨fun c => absurd ((le_nI (by omega) (by omega)).mp c) (by omega), fun _ => ⟨vi_nI (by omega) (by omega), fun x1 ex1 x2 ex2 => ?_⟩⟩
    rw [ex1, ex2, nI_1, nI_clamp (by omega)]
    exact this
theorem q_weightOf {S : Int32} (hK : KI t m v) (h : post (sumW (f 2) S t)) : Q_X0_weightOf S f v post := ⟨t + 1, q_wo_loop hK (fun _ => h) t 0 (by omega)⟩
/-- which mutants a set kills -/
def unK (B : Nat → Int32) (S : Int32) : Nat → Int32
  | 0 => 0
  | k + 1 => if ((S >>> (nI k &&& 31)) &&& 1) = 0 then unK B S k else unK B S k ||| B k
theorem q_kb_loop {S : Int32} {K : Int32 → Int32 → Prop} (hK : KI t m v) (hE : ∀ x3, K (unK (f 0) S t) x3) :
    ∀ (d k : Nat), k + d = t → Q_X0_killedBy_L4 f v S K (d + 1) (unK (f 0) S k) (nI k) := by
  have ht := hK.1
  have e1 := hK.2.2.1
  intro d
  induction d with
  | zero =>
    intro k hk
    rw [Q_X0_killedBy_L4, e1, show k = t by omega]
    exact ⟨fun _ => hE _, fun c => absurd (Int32.le_refl _) c⟩
  | succ d ih =>
    intro k hk
    rw [Q_X0_killedBy_L4, e1]
    have := ih (k + 1) (by omega)
    rw [unK] at this
    refine ⟨fun c => absurd ((le_nI (by omega) (by omega)).mp c) (by omega), fun _ => ⟨fun c x1 ex1 => ?_, fun c => ⟨vi_nI (by omega) (by omega), fun x1 ex1 x2 ex2 => ?_⟩⟩⟩
    · rw [ex1, nI_1]; rw [if_pos c] at this; exact this
    · rw [ex1, ex2, nI_1, nI_clamp (by omega)]; rw [if_neg c] at this; exact this
theorem q_killedBy {S : Int32} (hK : KI t m v) (h : post (unK (f 0) S t)) : Q_X0_killedBy S f v post := ⟨t + 1, q_kb_loop hK (fun _ => h) t 0 (by omega)⟩
/-- COVER of the first k sets, and its weight -/
def light (f : FF) (t : Nat) (kd : Int32) : Nat → Int32 × Int32
  | 0 => (0, 2147483647)
  | k + 1 => if (light f t kd k).2 ≤ sumW (f 2) (nI k) t ∨ ¬ unK (f 0) (nI k) t = kd then light f t kd k else (nI k, sumW (f 2) (nI k) t)
theorem shl_t : ∀ t, t ≤ 7 → (1 : Int32) <<< (nI t &&& 31) = nI (2 ^ t) := by decide +kernel
theorem two_t {t : Nat} (h : t ≤ 7) : 2 ^ t ≤ 128 := Nat.pow_le_pow_right (by omega) h
theorem q_lt_loop {K : Int32 → Int32 → Int32 → Prop} (hK : KI t m v) (hE : ∀ x2 x3, K (light f t (v 2) (2 ^ t)).1 x2 x3) :
    ∀ (d k : Nat), k + d = 2 ^ t → Q_X0_lightestTests_L7 f v K (d + 1) (light f t (v 2) k).1 (light f t (v 2) k).2 (nI k) := by
  have ht := hK.1
  have e1 := hK.2.2.1
  have h2 := two_t ht
  intro d
  induction d with
  | zero =>
    intro k hk
    rw [Q_X0_lightestTests_L7, e1, shl_t t ht, show k = 2 ^ t by omega]
    exact ⟨fun _ => hE _ _, fun c => absurd (Int32.le_refl _) c⟩
  | succ d ih =>
    intro k hk
    rw [Q_X0_lightestTests_L7, e1, shl_t t ht]
    have := ih (k + 1) (by omega)
    rw [light] at this
    refine ⟨fun c => absurd ((le_nI (by omega) (by omega)).mp c) (by omega), fun _ => q_weightOf hK ⟨fun c x1 ex1 => ?_, fun c => q_killedBy hK ⟨fun c2 x1 ex1 => ?_, fun c2 x1 ex1 => ?_⟩⟩⟩
    · rw [ex1, nI_1]; rw [if_pos (Or.inl c)] at this; exact this
    · rw [ex1, nI_1]; rw [if_pos (Or.inr c2)] at this; exact this
    · rw [ex1, nI_1]; rw [if_neg (fun z => z.elim c (fun z2 => z2 c2))] at this; exact this
theorem q_lightestTests (hK : KI t m v) (h : post (light f t (v 2) (2 ^ t)).1) : Q_X0_lightestTests f v post := ⟨2 ^ t + 1, q_lt_loop hK (fun _ _ => h) (2 ^ t) 0 (by omega)⟩
/-- is test a better than test b, by a manner -/
def btr (f : FF) (mn : Int32) (a b : Nat) (left : Int32) : Bool := if mn = 0 then decide (¬ pcnt (f 0 a &&& left) ≤ pcnt (f 0 b &&& left)) else if mn = 1 then decide (¬ f 2 b ≤ f 2 a) else decide (¬ pcnt (f 0 a &&& left) * f 2 b ≤ pcnt (f 0 b &&& left) * f 2 a)
theorem q_isBetter {mn left : Int32} {a b : Nat} (ha : a < 7) (hb : b < 7) (h1 : btr f mn a b left = true → post 1) (h0 : btr f mn a b left = false → post 0) : Q_X0_isBetter mn (nI a) (nI b) left f v post := by
  unfold Q_X0_isBetter
  have va : vp_in (nI a) 7 := vi_nI (by omega) (by omega)
  have vb : vp_in (nI b) 7 := vi_nI (by omega) (by omega)
  rw [nI_clamp (by omega), nI_clamp (by omega)]
  unfold btr at h1 h0
  refine ⟨va, q_bitCount ⟨vb, q_bitCount ⟨fun c => ?_, fun c => ⟨fun c2 => ⟨va, vb, ?_⟩, fun c2 => ⟨vb, va, ?_⟩⟩⟩⟩⟩
  · rw [if_pos c] at h1 h0
    exact ⟨fun c3 => h0 (by simp [c3]), fun c3 => h1 (by simp [c3])⟩
  · rw [if_neg c, if_pos c2] at h1 h0
    exact ⟨fun c3 => h0 (by simp [c3]), fun c3 => h1 (by simp [c3])⟩
  · rw [if_neg c, if_neg c2] at h1 h0
    exact ⟨fun c3 => h0 (by simp [c3]), fun c3 => h1 (by simp [c3])⟩
/-- the best one of the first k tests (of the first one, where k is 1) -/
def best (f : FF) (mn left : Int32) : Nat → Nat
  | 0 => 0
  | k + 1 => if k = 0 then 0 else if (f 0 k &&& left) = 0 then best f mn left k else if (f 0 (best f mn left k) &&& left) = 0 then k else if btr f mn k (best f mn left k) left = true then k else best f mn left k
theorem best_lt (f : FF) (mn left : Int32) : ∀ k, 0 < k → best f mn left k < k
  | 0, h => absurd h (by omega)
  | k + 1, _ => by
    rw [best]
    by_cases h0 : k = 0
    · rw [if_pos h0]; omega
    · have := best_lt f mn left k (by omega)
      rw [if_neg h0]
      split
      · omega
      · split
        · omega
        · split <;> omega
theorem q_bt_loop {mn left : Int32} {K : Int32 → Int32 → Prop} (hK : KI t m v) (ht0 : 0 < t) (hE : ∀ x4, K (nI (best f mn left t)) x4) :
    ∀ (d k : Nat), 0 < k → k + d = t → Q_X0_bestTest_L5 f v mn left K (d + 1) (nI (best f mn left k)) (nI k) := by
  have ht := hK.1
  have e1 := hK.2.2.1
  intro d
  induction d with
  | zero =>
    intro k h0 hk
    rw [Q_X0_bestTest_L5, e1, show k = t by omega]
    exact ⟨fun _ => hE _, fun c => absurd (Int32.le_refl _) c⟩
  | succ d ih =>
    intro k h0 hk
    rw [Q_X0_bestTest_L5, e1]
    have hb := best_lt f mn left k h0
    have := ih (k + 1) (by omega) (by omega)
    rw [best, if_neg (by omega)] at this
    refine ⟨fun c => absurd ((le_nI (by omega) (by omega)).mp c) (by omega), fun _ => ⟨vi_nI (by omega) (by omega), ?_⟩⟩
    rw [nI_clamp (by omega), nI_clamp (by omega)]
    refine ⟨fun c x1 ex1 => ?_, fun c => ⟨vi_nI (by omega) (by omega), fun c2 x1 ex1 => ?_, fun c2 => q_isBetter (by omega) (by omega) (fun hs => ⟨fun z => absurd z (by decide), fun _ x1 ex1 => ?_⟩) (fun hs => ⟨fun _ x1 ex1 => ?_, fun z => absurd rfl z⟩)⟩⟩
    · rw [ex1, nI_1]; rw [if_pos c] at this; exact this
    · rw [ex1, nI_1]; rw [if_neg c, if_pos c2] at this; exact this
    · rw [ex1, nI_1]; rw [if_neg c, if_neg c2, if_pos hs] at this; exact this
    · rw [ex1, nI_1]; rw [if_neg c, if_neg c2, if_neg (by rw [hs]; decide)] at this; exact this
theorem q_bestTest {mn left : Int32} (hK : KI t m v) (ht0 : 0 < t) (h : post (nI (best f mn left t))) : Q_X0_bestTest mn left f v post := by
  have := q_bt_loop (mn := mn) (left := left) (K := fun x3 x4 => post x3) hK ht0 (fun _ => h) (t - 1) 1 (by omega) (by omega)
  exact ⟨t - 1 + 1, this⟩
end KX
theorem sb0 {α : Type} (f : Nat → α) : sb f 0 = f := funext (fun j => congrArg f (Nat.zero_add j))
theorem mg_sb {α : Type} (f : Nat → α) (b n : Nat) : mg f b n (sb f b) = f := by
  funext j
  unfold mg sb
  split
  · rename_i h
    congr 1
    omega
  · rfl
/-- what find leaves: f0 the rows at its start -/
def Found (n t : Nat) (f0 f : FF) (v : VV) : Prop :=
  (∀ i, i < 7 → f i = f0 i) ∧ f 12 = f0 12 ∧ (∀ i, i < t → f 9 i = bs (kt' f0 n i) (4 * n)) ∧ (∀ i, i < t → f 11 i = wgt (f0 3 i) (f0 4 i)) ∧ (∀ q, q < 4 * n → f 10 q = bs (fun i => kt' f0 n i q) t) ∧ v 0 = nI n ∧ v 1 = nI t ∧ v 2 = nI t ∧ v 3 = nI (4 * n) ∧ v 4 = bs (fun q => (List.range t).any (fun i => kt' f0 n i q)) (4 * n)
section FN
variable {n t : Nat} {f0 : FF} {v0' : VV}
theorem q_fz_loop {K : Int32 → FF → VV → Prop} {v : VV} (hm : 4 * n ≤ 20) (e3 : v 3 = nI (4 * n))
    (hE : ∀ x2 f, (∀ i, i ≠ 10 → f i = f0 i) → (∀ q, q < 4 * n → f 10 q = 0) → K x2 f v) :
    ∀ (d k : Nat) (f : FF), k + d = 4 * n → (∀ i, i ≠ 10 → f i = f0 i) → (∀ q, q < k → f 10 q = 0) → Q_X0_find_L23 K (d + 1) (nI k) f v := by
  intro d
  induction d with
  | zero =>
    intro k f hk h1 h2
    rw [Q_X0_find_L23, e3]
    exact ⟨fun _ => hE _ f h1 (fun q hq => h2 q (by omega)), fun c => absurd (by rw [show k = 4 * n by omega]; exact Int32.le_refl _) c⟩
  | succ d ih =>
    intro k f hk h1 h2
    rw [Q_X0_find_L23, e3]
    refine ⟨fun c => absurd ((le_nI (by omega) (by omega)).mp c) (by omega), fun _ => ⟨vi_nI (by omega) (by omega), fun f1 ef1 x1 ex1 => ?_⟩⟩
    rw [ex1, nI_1]
    refine ih (k + 1) f1 (by omega) (fun i hi => by rw [ef1, fu_ne hi]; exact h1 i hi) (fun q hq => ?_)
    rw [ef1, fu_eq]
    show upd (f 10) (nI k).toNatClampNeg 0 q = 0
    rw [nI_clamp (by omega)]
    by_cases hqk : q = k
    · rw [hqk, upd_eq]
    · rw [upd_ne hqk]; exact h2 q (by omega)
theorem bit_shl (x : Int32) {k j : Nat} (hk : k < 32) (hj : j < 32) : ((x >>> (nI k &&& 31)) &&& 1) <<< (nI j &&& 31) = if bt x k = true then (1 : Int32) <<< (nI j &&& 31) else 0 := by
  rw [shr1 x hk]
  split
  · rfl
  · exact (by decide +kernel : ∀ j, j < 32 → (0 : Int32) <<< (nI j &&& 31) = 0) j hj
theorem q_fi_loop {j : Nat} {g : Nat → Nat → Bool} {K : Int32 → FF → VV → Prop} {v : VV} {f1 : FF} (hm : 4 * n ≤ 20) (hj : j < 7) (e3 : v 3 = nI (4 * n)) (h9 : f1 9 j = bs (g j) (4 * n)) (h10 : ∀ q, q < 4 * n → f1 10 q = bs (fun i => g i q) j)
    (hE : ∀ x3 f, (∀ i, i ≠ 10 → f i = f1 i) → (∀ q, q < 4 * n → f 10 q = bs (fun i => g i q) (j + 1)) → K x3 f v) :
    ∀ (d k : Nat) (f : FF), k + d = 4 * n → (∀ i, i ≠ 10 → f i = f1 i) → (∀ q, q < k → f 10 q = bs (fun i => g i q) (j + 1)) → (∀ q, k ≤ q → q < 4 * n → f 10 q = bs (fun i => g i q) j) → Q_X0_find_L93 (nI j) K (d + 1) (nI k) f v := by
  intro d
  induction d with
  | zero =>
    intro k f hk h1 h2 h3
    rw [Q_X0_find_L93, e3]
    exact ⟨fun _ => hE _ f h1 (fun q hq => h2 q (by omega)), fun c => absurd (by rw [show k = 4 * n by omega]; exact Int32.le_refl _) c⟩
  | succ d ih =>
    intro k f hk h1 h2 h3
    rw [Q_X0_find_L93, e3]
    refine ⟨fun c => absurd ((le_nI (by omega) (by omega)).mp c) (by omega), fun _ => ⟨vi_nI (by omega) (by omega), vi_nI (by omega) (by omega), vi_nI (by omega) (by omega), fun f2 ef2 x1 ex1 => ?_⟩⟩
    rw [ex1, nI_1]
    rw [nI_clamp (by omega), nI_clamp (by omega), h1 9 (by decide), h9, bit_shl _ (by omega) (by omega), bt_bs _ _ (by omega) k (by omega), decide_eq_true (show k < 4 * n by omega), Bool.true_and, h3 k (by omega) (by omega)] at ef2
    refine ih (k + 1) f2 (by omega) (fun i hi => by rw [ef2, fu_ne hi]; exact h1 i hi) (fun q hq => ?_) (fun q hq hq2 => ?_)
    · rw [ef2, fu_eq]
      show upd (f 10) (nI k).toNatClampNeg _ q = _
      rw [nI_clamp (by omega)]
      by_cases hqk : q = k
      · rw [hqk, upd_eq]; rfl
      · rw [upd_ne hqk]; exact h2 q (by omega)
    · rw [ef2, fu_eq]
      show upd (f 10) (nI k).toNatClampNeg _ q = _
      rw [nI_clamp (by omega), upd_ne (by omega)]
      exact h3 q (by omega) hq2
/-- the state of find's outer loop, behind j tests -/
def Fo (n t : Nat) (f0 : FF) (j : Nat) (f : FF) (v : VV) : Prop :=
  (∀ i, i < 7 → f i = f0 i) ∧ f 12 = f0 12 ∧ (∀ i, i < j → f 9 i = bs (kt' f0 n i) (4 * n)) ∧ (∀ i, i < j → f 11 i = wgt (f0 3 i) (f0 4 i)) ∧ (∀ q, q < 4 * n → f 10 q = bs (fun i => kt' f0 n i q) j) ∧ v 0 = nI n ∧ v 1 = nI t ∧ v 2 = nI t ∧ v 3 = nI (4 * n) ∧ v 4 = bs (fun q => (List.range j).any (fun i => kt' f0 n i q)) (4 * n)
theorem q_fo_loop {K : Int32 → FF → VV → Prop} {v00 : VV} (hP : PI n t f0 v00) (hE : ∀ x2 f v, Fo n t f0 t f v → K x2 f v) :
    ∀ (d j : Nat) (f : FF) (v : VV), j + d = t → Fo n t f0 j f v → Q_X0_find_L46 K (d + 1) (nI j) f v := by
  have hn := hP.1
  have ht := hP.2.1
  have hok := hP.2.2.2.2
  intro d
  induction d with
  | zero =>
    intro j f v hj hF
    rw [Q_X0_find_L46, hF.2.2.2.2.2.2.2.1]
    have : j = t := by omega
    subst this
    exact ⟨fun _ => hE _ f v hF, fun c => absurd (Int32.le_refl _) c⟩
  | succ d ih =>
    intro j f v hj hF
    obtain ⟨a1, a2, a3, a4, a5, b0, b1, b2, b3, b4⟩ := hF
    rw [Q_X0_find_L46, b2, sb0, sb0]
    have hPf : PI n t f v := ⟨hn, ht, b0, b1, fun k hk => by rw [a1 1 (by decide), a1 2 (by decide)]; exact hok k hk⟩
    refine ⟨fun c => absurd ((le_nI (by omega) (by omega)).mp c) (by omega), fun _ => q_weight hPf (by omega) ⟨vi_nI (by omega) (by omega), fun f1 ef1 => ?_⟩⟩
    rw [sb0]
    have g1 : ∀ i, i ≠ 11 → f1 i = f i := fun i hi => by rw [ef1, fu_ne hi]
    have hP1 : PI n t f1 v := ⟨hn, ht, b0, b1, fun k hk => by rw [g1 1 (by decide), g1 2 (by decide)]; exact hPf.2.2.2.2 k hk⟩
    refine q_killedByTest hP1 (by omega) (fun f2 h2 f3 ef3 v3 ev3 => ?_)
    have ev : v3 = v := by
      rw [ev3]
      have := mg_sb v 0 2
      rw [sb0] at this
      exact this
    subst ev
    have ekt : ∀ (q : Nat), kt' f1 n j q = kt' f0 n j q := fun q => by
      unfold kt'
      rw [g1 0 (by decide), g1 1 (by decide), g1 2 (by decide), g1 5 (by decide), g1 6 (by decide), a1 0 (by decide), a1 1 (by decide), a1 2 (by decide), a1 5 (by decide), a1 6 (by decide)]
    have g3 : ∀ i, i < 7 → f3 i = f0 i := fun i hi => by
      rw [ef3, mg_in (by omega) (by omega), Nat.sub_zero, h2 i (by omega) (by omega), g1 i (by omega)]
      exact a1 i hi
    have g4 : ∀ i, 9 ≤ i → i ≠ 11 → f3 i = f i := fun i hi hi2 => by rw [ef3, mg_out (by omega), g1 i hi2]
    have g5 : f3 11 = f1 11 := by rw [ef3, mg_out (by omega)]
    refine ⟨vi_nI (by omega) (by omega), fun f4 ef4 => ⟨vi_nI (by omega) (by omega), fun v4 ev4 => ?_⟩⟩
    have c4 : (nI j).toNatClampNeg = j := nI_clamp (by omega)
    have e49 : f4 9 j = bs (kt' f0 n j) (4 * n) := by
      rw [ef4, fu_eq]
      show upd (f3 9) (nI j).toNatClampNeg _ j = _
      rw [c4, upd_eq]
      exact bs_cong (fun q _ => ekt q)
    have e4 : ∀ i, i ≠ 9 → f4 i = f3 i := fun i hi => by rw [ef4, fu_ne hi]
    have w4 : ∀ i, i ≠ 4 → v4 i = v3 i := fun i hi => by rw [ev4, fu_ne hi]
    rw [c4, e49] at ev4
    refine ⟨4 * n + 1, q_fi_loop (n := n) (j := j) (g := kt' f0 n) (f1 := f4) (by omega) (by omega) (by rw [w4 3 (by decide)]; exact b3) e49 (fun q hq => by rw [e4 10 (by decide), g4 10 (by decide) (by decide)]; exact a5 q hq) (fun x3 f5 h5 h6 x4 ex4 => ?_) (4 * n) 0 f4 (by omega) (fun _ _ => rfl) (fun q hq => by omega) (fun q _ hq => by rw [e4 10 (by decide), g4 10 (by decide) (by decide)]; exact a5 q hq)⟩
    rw [ex4, nI_1]
    refine ih (j + 1) f5 v4 (by omega) ⟨fun i hi => ?_, ?_, fun i hi => ?_, fun i hi => ?_, h6, ?_, ?_, ?_, ?_, ?_⟩
    · rw [h5 i (by omega), e4 i (by omega)]; exact g3 i hi
    · rw [h5 12 (by decide), e4 12 (by decide), g4 12 (by decide) (by decide)]; exact a2
    · rw [h5 9 (by decide)]
      by_cases hij : i = j
      · rw [hij]; exact e49
      · rw [ef4, fu_eq]
        show upd (f3 9) (nI j).toNatClampNeg _ i = _
        rw [c4, upd_ne hij, g4 9 (by decide) (by decide)]
        exact a3 i (by omega)
    · rw [h5 11 (by decide), e4 11 (by decide), g5, ef1, fu_eq]
      show upd (f 11) (nI j).toNatClampNeg _ i = _
      rw [c4]
      by_cases hij : i = j
      · rw [hij, upd_eq, a1 3 (by decide), a1 4 (by decide)]
      · rw [upd_ne hij]; exact a4 i (by omega)
    · rw [w4 0 (by decide)]; exact b0
    · rw [w4 1 (by decide)]; exact b1
    · rw [w4 2 (by decide)]; exact b2
    · rw [w4 3 (by decide)]; exact b3
    · rw [ev4, fu_eq, b4, bs_or (by omega)]
      refine bs_cong (fun q _ => ?_)
      rw [List.range_succ, List.any_append]
      simp
theorem q_find {f : FF} {v : VV} {post : FF → VV → Prop} (hP : PI n t f v) (h : ∀ f' v', Found n t f f' v' → post f' v') : Q_X0_find f v post := by
  have hn := hP.1
  have ht := hP.2.1
  unfold Q_X0_find
  intro v1 ev1
  rw [sb0, sb0]
  have w1 : ∀ i, i ≠ 2 → v1 i = v i := fun i hi => by rw [ev1, fu_ne hi]
  have hP1 : PI n t f v1 := ⟨hn, ht, by rw [w1 0 (by decide)]; exact hP.2.2.1, by rw [w1 1 (by decide)]; exact hP.2.2.2.1, hP.2.2.2.2⟩
  refine q_mutants hP1 (fun v3 ev3 v4 ev4 => ⟨4 * n + 1, ?_⟩)
  have x4 : v4 4 = 0 := by rw [ev4, fu_eq]
  have x3 : v4 3 = nI (4 * n) := by rw [ev4, fu_ne (by decide), ev3, fu_eq]
  have x2 : v4 2 = nI t := by rw [ev4, fu_ne (by decide), ev3, fu_ne (by decide), ev1, fu_eq]; exact hP.2.2.2.1
  have x1 : v4 1 = nI t := by rw [ev4, fu_ne (by decide), ev3, fu_ne (by decide), w1 1 (by decide)]; exact hP.2.2.2.1
  have x0 : v4 0 = nI n := by rw [ev4, fu_ne (by decide), ev3, fu_ne (by decide), w1 0 (by decide)]; exact hP.2.2.1
  refine q_fz_loop (n := n) (f0 := f) (by omega) x3 (fun y2 f5 h5 h6 => ⟨t + 1, q_fo_loop hP (fun _ f' v' hF => h f' v' hF) t 0 f5 v4 (by omega) ⟨fun i hi => h5 i (by omega), h5 12 (by decide), fun i hi => by omega, fun i hi => by omega, fun q hq => h6 q hq, x0, x1, x2, x3, ?_⟩⟩) (4 * n) 0 f (by omega) (fun _ _ => rfl) (fun q hq => by omega)
  rw [x4]
  exact ((bs_zero (by omega)).mpr (fun _ _ => rfl)).symm
end FN
section KZ
variable {t m : Nat} {f : FF} {v : VV} {post : Int32 → Prop} {posf : Int32 → FF → VV → Prop}
/-- what is left behind c choices -/
def leftN (f : FF) (mn : Int32) (t : Nat) (kd : Int32) : Nat → Int32
  | 0 => kd
  | c + 1 => leftN f mn t kd c &&& (f 0 (best f mn (leftN f mn t kd c) t) ^^^ (-1))
theorem best_cong {f f' : FF} (h0 : f' 0 = f 0) (h2 : f' 2 = f 2) (mn left : Int32) : ∀ k, best f' mn left k = best f mn left k
  | 0 => rfl
  | k + 1 => by
    have ih := best_cong h0 h2 mn left k
    rw [best, best, h0, ih]
    unfold btr
    rw [h0, h2]
theorem q_ch_loop {mn kd : Int32} {K : Int32 → Int32 → FF → VV → Prop} (hK : KI t m v) (f0 : FF)
    (hE : ∀ c f, c ≤ t → (c = t ∨ leftN f0 mn t kd c = 0) → (∀ i, i < c → leftN f0 mn t kd i ≠ 0) → (∀ i, i ≠ 3 → f i = f0 i) → (∀ i, i < c → f 3 i = nI (best f0 mn (leftN f0 mn t kd i) t)) → K (leftN f0 mn t kd c) (nI c) f v) :
    ∀ (d c : Nat) (f : FF), c + d = t → (∀ i, i < c → leftN f0 mn t kd i ≠ 0) → (∀ i, i ≠ 3 → f i = f0 i) → (∀ i, i < c → f 3 i = nI (best f0 mn (leftN f0 mn t kd i) t)) → Q_X0_chooseTests_L7 mn K (d + 1) (leftN f0 mn t kd c) (nI c) f v := by
  have ht := hK.1
  have e1 := hK.2.2.1
  intro d
  induction d with
  | zero =>
    intro c f hc h1 h2 h3
    rw [Q_X0_chooseTests_L7, e1]
    exact ⟨fun z => hE c f (by omega) (Or.inr z) h1 h2 h3, fun _ => ⟨fun _ => hE c f (by omega) (Or.inl (by omega)) h1 h2 h3, fun z => absurd (by rw [show c = t by omega]; exact Int32.le_refl _) z⟩⟩
  | succ d ih =>
    intro c f hc h1 h2 h3
    rw [Q_X0_chooseTests_L7, e1]
    refine ⟨fun z => hE c f (by omega) (Or.inr z) h1 h2 h3, fun z => ⟨fun y => absurd ((le_nI (by omega) (by omega)).mp y) (by omega), fun _ => q_bestTest hK (by omega) ?_⟩⟩
    rw [best_cong (h2 0 (by decide)) (h2 2 (by decide))]
    have hb := best_lt f0 mn (leftN f0 mn t kd c) t (by omega)
    refine ⟨vi_nI (by omega) (by omega), fun f1 ef1 => ⟨vi_nI (by omega) (by omega), ?_⟩⟩
    have c4 : (nI c).toNatClampNeg = c := nI_clamp (by omega)
    have e3 : f1 3 c = nI (best f0 mn (leftN f0 mn t kd c) t) := by
      rw [ef1, fu_eq]
      show upd (f 3) (nI c).toNatClampNeg _ c = _
      rw [c4, upd_eq]
    have g1 : ∀ i, i ≠ 3 → f1 i = f0 i := fun i hi => by rw [ef1, fu_ne hi]; exact h2 i hi
    rw [c4, e3]
    refine ⟨vi_nI (by omega) (by omega), fun x1 ex1 x2 ex2 => ?_⟩
    rw [ex1, ex2, nI_1, nI_clamp (by omega), g1 0 (by decide)]
    refine ih (c + 1) f1 (by omega) (fun i hi => ?_) g1 (fun i hi => ?_)
    · rcases (show i < c ∨ i = c by omega) with h | h
      · exact h1 i h
      · rw [h]; exact z
    · by_cases hic : i = c
      · rw [hic]; exact e3
      · rw [ef1, fu_eq]
        show upd (f 3) (nI c).toNatClampNeg _ i = _
        rw [c4, upd_ne hic]
        exact h3 i (by omega)
theorem q_chooseTests {mn : Int32} (hK : KI t m v) (h : ∀ c f', c ≤ t → (c = t ∨ leftN f mn t (v 2) c = 0) → (∀ i, i < c → leftN f mn t (v 2) i ≠ 0) → (∀ i, i ≠ 3 → f' i = f i) → (∀ i, i < c → f' 3 i = nI (best f mn (leftN f mn t (v 2) i) t)) → posf (nI c) f' v) : Q_X0_chooseTests mn f v posf := by
  unfold Q_X0_chooseTests
  intro x1 e1
  rw [e1]
  exact ⟨t + 1, q_ch_loop (kd := v 2) hK f (fun c f' a b c1 d e => h c f' a b c1 d e) t 0 f (by omega) (fun i hi => by omega) (fun _ _ => rfl) (fun i hi => by omega)⟩
/-- the set of the first k choices -/
def setC (C : Nat → Int32) : Nat → Int32
  | 0 => 0
  | k + 1 => setC C k ||| (1 : Int32) <<< (C k &&& 31)
theorem q_cset_loop {c : Nat} {K : Int32 → Int32 → Prop} (hc : c ≤ 7) (hE : ∀ x3, K (setC (f 3) c) x3) :
    ∀ (d k : Nat), k + d = c → Q_X0_chosenSet_L4 f v (nI c) K (d + 1) (setC (f 3) k) (nI k) := by
  intro d
  induction d with
  | zero =>
    intro k hk
    rw [Q_X0_chosenSet_L4, show k = c by omega]
    exact ⟨fun _ => hE _, fun z => absurd (Int32.le_refl _) z⟩
  | succ d ih =>
    intro k hk
    rw [Q_X0_chosenSet_L4]
    have := ih (k + 1) (by omega)
    rw [setC] at this
    refine ⟨fun z => absurd ((le_nI (by omega) (by omega)).mp z) (by omega), fun _ => ⟨vi_nI (by omega) (by omega), fun x1 ex1 x2 ex2 => ?_⟩⟩
    rw [ex1, ex2, nI_1, nI_clamp (by omega)]
    exact this
theorem q_chosenSet {c : Nat} (hc : c ≤ 7) (h : post (setC (f 3) c)) : Q_X0_chosenSet (nI c) f v post := ⟨c + 1, q_cset_loop hc (fun _ => h) c 0 (by omega)⟩
end KZ
/-! ===== the text ===== -/
def pkv (c : Nat → Int32) (L p : Nat) : Int32 := if p < L then c p else -1
def wIdx (z : Int32) : Int32 := if z = 97 then 0 else if z = 115 then 1 else if z = 109 then 2 else if z = 103 then 3 else if z = 108 then 4 else -1
def kIdx (z : Int32) : Int32 := if z = 80 then 0 else if z = 83 then 1 else if z = 68 then 2 else -1
def digV (lo hi z : Int32) : Int32 := if lo ≤ z - 48 ∧ z - 48 ≤ hi then z - 48 else -1
def srcV (z : Int32) (k : Nat) : Int32 := if z = 120 then 5 else if z = 121 then 6 else digV 0 (nI k - 1) z
theorem q_isWithin {x lo hi : Int32} {post : Int32 → Prop} (h1 : lo ≤ x → x ≤ hi → post 1) (h0 : ¬ (lo ≤ x ∧ x ≤ hi) → post 0) : Q_X4_isWithin x lo hi post := by
  unfold Q_X4_isWithin
  refine ⟨fun c => h0 (fun z => absurd z.1 (Int32.not_le.mpr c)), fun c => ⟨fun c2 => h0 (fun z => absurd z.2 (Int32.not_le.mpr c2)), fun c2 => h1 (Int32.not_lt.mp c) (Int32.not_lt.mp c2)⟩⟩
/-- the reader's numbers -/
def RI (L p : Nat) (v : VV) : Prop := L ≤ 60 ∧ p ≤ L ∧ v 0 = nI L ∧ v 1 = nI p
/-- the place moved to p, all other numbers as they were -/
def Mv (p : Nat) (v v' : VV) : Prop := v' 1 = nI p ∧ ∀ i, i ≠ 1 → v' i = v i
theorem RI.mv {L p p' : Nat} {v v' : VV} (h : RI L p v) (hm : Mv p' v v') (hp : p' ≤ L) : RI L p' v' := ⟨h.1, hp, by rw [hm.2 0 (by decide)]; exact h.2.2.1, hm.1⟩
theorem Mv.tr {p q : Nat} {v v' v'' : VV} (h : Mv p v v') (h2 : Mv q v' v'') : Mv q v v'' := ⟨h2.1, fun i hi => (h2.2 i hi).trans (h.2 i hi)⟩
section TX
variable {L p : Nat} {f : FF} {v : VV} {post : Int32 → Prop} {posf : Int32 → FF → VV → Prop}
theorem q_peek (h : RI L p v) (hp : post (pkv (f 0) L p)) : Q_X3_peek f v post := by
  obtain ⟨h1, h2, h3, h4⟩ := h
  unfold Q_X3_peek
  rw [h3, h4, nI_clamp (by omega)]
  unfold pkv at hp
  refine ⟨fun c => ?_, fun c => ⟨?_, ?_⟩⟩
  · rw [le_nI (by omega) (by omega)] at c
    rw [if_neg (by omega)] at hp; exact hp
  · rw [le_nI (by omega) (by omega)] at c
    exact vi_nI (by omega) (by omega)
  · rw [le_nI (by omega) (by omega)] at c
    rw [if_pos (by omega)] at hp; exact hp
theorem pkv_lt {c : Nat → Int32} (h : ¬ pkv c L p = -1) : p < L := by
  unfold pkv at h
  split at h
  · assumption
  · exact absurd rfl h
theorem mv_1 (h : RI L p v) : ∀ v' : VV, v' = fu v 1 (v 1 + 1) → Mv (p + 1) v v' := fun v' e => ⟨by rw [e, fu_eq, h.2.2.2, nI_1], fun i hi => by rw [e, fu_ne hi]⟩
theorem q_pass {code : Int32} (hc : ¬ code = -1) (h : RI L p v) (h1 : pkv (f 0) L p = code → p < L → ∀ v', Mv (p + 1) v v' → posf 1 f v') (h0 : ¬ pkv (f 0) L p = code → posf 0 f v) : Q_X3_pass code f v posf := by
  unfold Q_X3_pass
  refine q_peek h ⟨fun c v' ev => h1 c (pkv_lt (c := f 0) (by rw [c]; exact hc)) v' (mv_1 h v' ev), fun c => h0 c⟩
theorem q_pw_loop {K18 K26 : Int32 → FF → VV → Prop} (h : RI L p v) (h1 : ∀ i, i < 5 → pkv (f 0) L p = tcW i → p < L → ∀ v', Mv (p + 1) v v' → K18 (nI i) f v') (h0 : (∀ i, i < 5 → ¬ pkv (f 0) L p = tcW i) → ∀ x, K26 x f v) :
    ∀ (d i : Nat), i + d = 5 → (∀ j, j < i → ¬ pkv (f 0) L p = tcW j) → Q_X3_pickW_L2 K18 K26 (d + 1) (nI i) f v := by
  intro d
  induction d with
  | zero =>
    intro i hi hn
    rw [Q_X3_pickW_L2]
    have : i = 5 := by omega
    subst this
    exact ⟨fun _ => h0 hn _, fun c => absurd (by decide) c⟩
  | succ d ih =>
    intro i hi hn
    rw [Q_X3_pickW_L2]
    refine ⟨fun c => absurd ((le_nI (a := 5) (by omega) (by omega)).mp c) (by omega), fun _ => ⟨vi_nI (by omega) (by omega), ?_⟩⟩
    rw [nI_clamp (by omega)]
    refine q_pass ((by decide : ∀ i, i < 5 → ¬ tcW i = -1) i (by omega)) h (fun e hl v' hv => ⟨fun c => absurd c (by decide), fun _ => h1 i (by omega) e hl v' hv⟩) (fun e => ⟨fun _ x1 ex1 => ?_, fun c => absurd rfl c⟩)
    rw [ex1, nI_1]
    refine ih (i + 1) (by omega) (fun j hj => ?_)
    rcases (show j < i ∨ j = i by omega) with z | z
    · exact hn j z
    · rw [z]; exact e
theorem q_pickW (h : RI L p v) (h1 : ¬ wIdx (pkv (f 0) L p) = -1 → p < L → ∀ v', Mv (p + 1) v v' → posf (wIdx (pkv (f 0) L p)) f v') (h0 : wIdx (pkv (f 0) L p) = -1 → posf (-1) f v) : Q_X3_pickW f v posf := by
  unfold Q_X3_pickW
  refine ⟨6, q_pw_loop h (fun i hi e hl v' hv => ?_) (fun hn _ => h0 ?_) 5 0 (by omega) (fun j hj => by omega)⟩
  · have e2 : wIdx (pkv (f 0) L p) = nI i := by rw [e]; exact (by decide : ∀ i, i < 5 → wIdx (tcW i) = nI i) i hi
    have := h1 (by rw [e2]; exact (by decide : ∀ i, i < 5 → ¬ nI i = -1) i hi) hl v' hv
    rw [e2] at this
    exact this
  · unfold wIdx
    rw [if_neg (show ¬ pkv (f 0) L p = 97 from hn 0 (by decide)), if_neg (show ¬ pkv (f 0) L p = 115 from hn 1 (by decide)), if_neg (show ¬ pkv (f 0) L p = 109 from hn 2 (by decide)), if_neg (show ¬ pkv (f 0) L p = 103 from hn 3 (by decide)), if_neg (show ¬ pkv (f 0) L p = 108 from hn 4 (by decide))]
theorem q_pk_loop {K18 K26 : Int32 → FF → VV → Prop} (h : RI L p v) (h1 : ∀ i, i < 3 → pkv (f 0) L p = tcK i → p < L → ∀ v', Mv (p + 1) v v' → K18 (nI i) f v') (h0 : (∀ i, i < 3 → ¬ pkv (f 0) L p = tcK i) → ∀ x, K26 x f v) :
    ∀ (d i : Nat), i + d = 3 → (∀ j, j < i → ¬ pkv (f 0) L p = tcK j) → Q_X3_pickK_L2 K18 K26 (d + 1) (nI i) f v := by
  intro d
  induction d with
  | zero =>
    intro i hi hn
    rw [Q_X3_pickK_L2]
    have : i = 3 := by omega
    subst this
    exact ⟨fun _ => h0 hn _, fun c => absurd (by decide) c⟩
  | succ d ih =>
    intro i hi hn
    rw [Q_X3_pickK_L2]
    refine ⟨fun c => absurd ((le_nI (a := 3) (by omega) (by omega)).mp c) (by omega), fun _ => ⟨vi_nI (by omega) (by omega), ?_⟩⟩
    rw [nI_clamp (by omega)]
    refine q_pass ((by decide : ∀ i, i < 3 → ¬ tcK i = -1) i (by omega)) h (fun e hl v' hv => ⟨fun c => absurd c (by decide), fun _ => h1 i (by omega) e hl v' hv⟩) (fun e => ⟨fun _ x1 ex1 => ?_, fun c => absurd rfl c⟩)
    rw [ex1, nI_1]
    refine ih (i + 1) (by omega) (fun j hj => ?_)
    rcases (show j < i ∨ j = i by omega) with z | z
    · exact hn j z
    · rw [z]; exact e
theorem q_pickK (h : RI L p v) (h1 : ¬ kIdx (pkv (f 0) L p) = -1 → p < L → ∀ v', Mv (p + 1) v v' → posf (kIdx (pkv (f 0) L p)) f v') (h0 : kIdx (pkv (f 0) L p) = -1 → posf (-1) f v) : Q_X3_pickK f v posf := by
  unfold Q_X3_pickK
  refine ⟨4, q_pk_loop h (fun i hi e hl v' hv => ?_) (fun hn _ => h0 ?_) 3 0 (by omega) (fun j hj => by omega)⟩
  · have e2 : kIdx (pkv (f 0) L p) = nI i := by rw [e]; exact (by decide : ∀ i, i < 3 → kIdx (tcK i) = nI i) i hi
    have := h1 (by rw [e2]; exact (by decide : ∀ i, i < 3 → ¬ nI i = -1) i hi) hl v' hv
    rw [e2] at this
    exact this
  · unfold kIdx
    rw [if_neg (show ¬ pkv (f 0) L p = 80 from hn 0 (by decide)), if_neg (show ¬ pkv (f 0) L p = 83 from hn 1 (by decide)), if_neg (show ¬ pkv (f 0) L p = 68 from hn 2 (by decide))]
theorem q_digit {lo hi : Int32} (hlo : 0 ≤ lo) (h : RI L p v) (h1 : ¬ digV lo hi (pkv (f 0) L p) = -1 → p < L → ∀ v', Mv (p + 1) v v' → posf (digV lo hi (pkv (f 0) L p)) f v') (h0 : digV lo hi (pkv (f 0) L p) = -1 → posf (-1) f v) : Q_X3_digit lo hi f v posf := by
  unfold Q_X3_digit
  refine q_peek h (fun x ex => ?_)
  have hd : digV lo hi (pkv (f 0) L p) = (if lo ≤ x ∧ x ≤ hi then x else -1) := by unfold digV; rw [ex]
  rw [hd] at h1 h0
  refine q_isWithin (fun a b => ⟨fun _ v' ev => ?_, fun c => absurd c (by decide)⟩) (fun a => ⟨fun c => absurd rfl c, fun _ => h0 (if_neg a)⟩)
  rw [if_pos ⟨a, b⟩] at h1
  have h0x : 0 ≤ x := Int32.le_trans hlo a
  refine h1 (fun e => ?_) (pkv_lt (c := f 0) (fun e => ?_)) v' (mv_1 h v' ev)
  · rw [e] at h0x; exact absurd h0x (by decide)
  · rw [ex, e] at h0x; exact absurd h0x (by decide)
theorem q_source {k : Nat} (h : RI L p v) (hk : v 2 = nI k) (h1 : ¬ srcV (pkv (f 0) L p) k = -1 → p < L → ∀ v', Mv (p + 1) v v' → posf (srcV (pkv (f 0) L p) k) f v') (h0 : srcV (pkv (f 0) L p) k = -1 → posf (-1) f v) : Q_X3_source f v posf := by
  unfold Q_X3_source
  unfold srcV at h1 h0
  refine q_pass (by decide) h (fun e hl v' hv => ⟨fun c => absurd c (by decide), fun _ => ?_⟩) (fun e => ⟨fun _ => q_pass (by decide) h (fun e2 hl v' hv => ⟨fun c => absurd c (by decide), fun _ => ?_⟩) (fun e2 => ⟨fun _ => ?_, fun c => absurd rfl c⟩), fun c => absurd rfl c⟩)
  · rw [if_pos e] at h1; exact h1 (by decide) hl v' hv
  · rw [if_neg e, if_pos e2] at h1; exact h1 (by decide) hl v' hv
  · rw [if_neg e, if_neg e2] at h1 h0
    rw [hk]
    exact q_digit (by decide) h h1 h0
/-- where step k's text is not as told: 4, if it is -/
def sf (c : Nat → Int32) (L p k : Nat) : Nat := if ¬ pkv c L p = 59 then 0 else if wIdx (pkv c L (p + 1)) = -1 then 1 else if srcV (pkv c L (p + 2)) k = -1 then 2 else if srcV (pkv c L (p + 3)) k = -1 then 3 else 4
/-- the rows behind a step that was read -/
def StpR (f f' : FF) (k : Nat) (w a b : Int32) : Prop := f' 1 = upd (f 1) k w ∧ f' 2 = upd (f 2) k a ∧ f' 3 = upd (f 3) k b ∧ ∀ i, i ≠ 1 → i ≠ 2 → i ≠ 3 → f' i = f i
theorem q_readStep {k : Nat} (h : RI L p v) (hk : v 2 = nI k) (hk5 : k < 5)
    (h1 : sf (f 0) L p k = 4 → p + 4 ≤ L → ∀ f' v', StpR f f' k (wIdx (pkv (f 0) L (p + 1))) (srcV (pkv (f 0) L (p + 2)) k) (srcV (pkv (f 0) L (p + 3)) k) → v' 1 = nI (p + 4) → v' 2 = nI (k + 1) → (∀ i, i ≠ 1 → i ≠ 2 → v' i = v i) → posf 1 f' v')
    (h0 : ∀ s, sf (f 0) L p k = s → s < 4 → p + s ≤ L → ∀ v', Mv (p + s) v v' → posf 0 f v') : Q_X3_readStep f v posf := by
  unfold Q_X3_readStep
  have Mv0 : Mv p v v := ⟨h.2.2.2, fun _ _ => rfl⟩
  refine q_pass (by decide) h (fun e hl v1 hv1 => ⟨fun _ => ?_, fun c => absurd c (by decide)⟩) (fun e => ⟨fun c => absurd rfl c, fun _ => h0 0 (by unfold sf; rw [if_pos e]) (by decide) (by have := h.2.1; omega) v Mv0⟩)
  have r1 : RI L (p + 1) v1 := h.mv hv1 (by omega)
  refine q_pickW r1 (fun e2 hl2 v2 hv2 => ⟨fun _ => ?_, fun c => absurd c e2⟩) (fun e2 => ⟨fun c => absurd rfl c, fun _ x1 ex1 => h0 1 (by unfold sf; rw [if_neg (not_not_intro e), if_pos e2]) (by decide) (by omega) v1 hv1⟩)
  have r2 : RI L (p + 2) v2 := r1.mv hv2 (by omega)
  have m2 : Mv (p + 2) v v2 := hv1.tr hv2
  have k2 : v2 2 = nI k := by rw [m2.2 2 (by decide)]; exact hk
  refine q_source r2 k2 (fun e3 hl3 v3 hv3 => ⟨fun _ => ?_, fun c => absurd c e3⟩) (fun e3 => ⟨fun c => absurd rfl c, fun _ x1 ex1 => h0 2 (by unfold sf; rw [if_neg (not_not_intro e), if_neg e2, if_pos e3]) (by decide) (by omega) v2 m2⟩)
  have r3 : RI L (p + 3) v3 := r2.mv hv3 (by omega)
  have m3 : Mv (p + 3) v v3 := m2.tr hv3
  have k3 : v3 2 = nI k := by rw [m3.2 2 (by decide)]; exact hk
  refine q_source r3 k3 (fun e4 hl4 v4 hv4 x ex => ?_) (fun e4 x ex => ⟨fun _ => h0 3 (by unfold sf; rw [if_neg (not_not_intro e), if_neg e2, if_neg e3, if_pos e4]) (by decide) (by omega) v3 m3, fun c => absurd rfl c⟩)
  have m4 : Mv (p + 4) v v4 := m3.tr hv4
  have k4 : v4 2 = nI k := by rw [m4.2 2 (by decide)]; exact hk
  rw [k4] at ex
  subst ex
  refine ⟨fun c => absurd c e4, fun _ => ⟨fun _ => ?_, fun c => absurd ((nI_ltI (b := 5) (by omega) (by omega)).mpr hk5) c⟩⟩
  have vk : vp_in (nI k) 5 := vi_nI (by omega) (by omega)
  have ck : (nI k).toNatClampNeg = k := nI_clamp (by omega)
  refine ⟨vk, fun f1 ef1 => ⟨vk, fun f2 ef2 => ⟨vk, fun f3 ef3 v5 ev5 => ?_⟩⟩⟩
  refine h1 (by unfold sf; rw [if_neg (not_not_intro e), if_neg e2, if_neg e3, if_neg e4]) (by omega) f3 v5 ⟨?_, ?_, ?_, fun i i1 i2 i3 => ?_⟩ ?_ ?_ (fun i i1 i2 => ?_)
  · rw [ef3, fu_ne (by decide), ef2, fu_ne (by decide), ef1, fu_eq]; show upd _ (nI k).toNatClampNeg _ = _; rw [ck]
  · rw [ef3, fu_ne (by decide), ef2, fu_eq]; show upd _ (nI k).toNatClampNeg _ = _; rw [ck, ef1, fu_ne (by decide)]
  · rw [ef3, fu_eq]; show upd _ (nI k).toNatClampNeg _ = _; rw [ck, ef2, fu_ne (by decide), ef1, fu_ne (by decide)]
  · rw [ef3, fu_ne i3, ef2, fu_ne i2, ef1, fu_ne i1]
  · rw [ev5, fu_ne (by decide)]; exact m4.1
  · rw [ev5, fu_eq, k4, nI_1]
  · rw [ev5, fu_ne i2]; exact m4.2 i i1
/-- where test j's text is not as told: 5, if it is -/
def tf (c : Nat → Int32) (L p : Nat) : Nat := if ¬ pkv c L p = 44 then 0 else if kIdx (pkv c L (p + 1)) = -1 then 1 else if digV 1 9 (pkv c L (p + 2)) = -1 then 2 else if digV 0 9 (pkv c L (p + 3)) = -1 then 3 else if digV 0 9 (pkv c L (p + 4)) = -1 then 4 else 5
def TstR (f f' : FF) (j : Nat) (kd tm x y : Int32) : Prop := f' 4 = upd (f 4) j kd ∧ f' 5 = upd (f 5) j tm ∧ f' 6 = upd (f 6) j x ∧ f' 7 = upd (f 7) j y ∧ ∀ i, i ≠ 4 → i ≠ 5 → i ≠ 6 → i ≠ 7 → f' i = f i
theorem q_readTest {j : Nat} (h : RI L p v) (hj : v 3 = nI j) (hj7 : j < 7)
    (h1 : tf (f 0) L p = 5 → p + 5 ≤ L → ∀ f' v', TstR f f' j (kIdx (pkv (f 0) L (p + 1))) (digV 1 9 (pkv (f 0) L (p + 2))) (digV 0 9 (pkv (f 0) L (p + 3))) (digV 0 9 (pkv (f 0) L (p + 4))) → v' 1 = nI (p + 5) → v' 3 = nI (j + 1) → (∀ i, i ≠ 1 → i ≠ 3 → v' i = v i) → posf 1 f' v')
    (h0 : ∀ s, tf (f 0) L p = s → s < 5 → p + s ≤ L → ∀ v', Mv (p + s) v v' → posf 0 f v') : Q_X3_readTest f v posf := by
  unfold Q_X3_readTest
  have Mv0 : Mv p v v := ⟨h.2.2.2, fun _ _ => rfl⟩
  refine q_pass (by decide) h (fun e hl v1 hv1 => ⟨fun _ => ?_, fun c => absurd c (by decide)⟩) (fun e => ⟨fun c => absurd rfl c, fun _ => h0 0 (by unfold tf; rw [if_pos e]) (by decide) (by have := h.2.1; omega) v Mv0⟩)
  have r1 : RI L (p + 1) v1 := h.mv hv1 (by omega)
  refine q_pickK r1 (fun e2 hl2 v2 hv2 => ⟨fun _ => ?_, fun c => absurd c e2⟩) (fun e2 => ⟨fun c => absurd rfl c, fun _ x1 ex1 => h0 1 (by unfold tf; rw [if_neg (not_not_intro e), if_pos e2]) (by decide) (by omega) v1 hv1⟩)
  have r2 : RI L (p + 2) v2 := r1.mv hv2 (by omega)
  have m2 : Mv (p + 2) v v2 := hv1.tr hv2
  refine q_digit (by decide) r2 (fun e3 hl3 v3 hv3 => ⟨fun _ => ?_, fun c => absurd c e3⟩) (fun e3 => ⟨fun c => absurd rfl c, fun _ x1 ex1 => h0 2 (by unfold tf; rw [if_neg (not_not_intro e), if_neg e2, if_pos e3]) (by decide) (by omega) v2 m2⟩)
  have r3 : RI L (p + 3) v3 := r2.mv hv3 (by omega)
  have m3 : Mv (p + 3) v v3 := m2.tr hv3
  refine q_digit (by decide) r3 (fun e4 hl4 v4 hv4 => ⟨fun _ => ?_, fun c => absurd c e4⟩) (fun e4 => ⟨fun c => absurd rfl c, fun _ x1 ex1 => h0 3 (by unfold tf; rw [if_neg (not_not_intro e), if_neg e2, if_neg e3, if_pos e4]) (by decide) (by omega) v3 m3⟩)
  have r4 : RI L (p + 4) v4 := r3.mv hv4 (by omega)
  have m4 : Mv (p + 4) v v4 := m3.tr hv4
  refine q_digit (by decide) r4 (fun e5 hl5 v5 hv5 x ex => ?_) (fun e5 x ex => ⟨fun _ => h0 4 (by unfold tf; rw [if_neg (not_not_intro e), if_neg e2, if_neg e3, if_neg e4, if_pos e5]) (by decide) (by omega) v4 m4, fun c => absurd rfl c⟩)
  have m5 : Mv (p + 5) v v5 := m4.tr hv5
  have k5 : v5 3 = nI j := by rw [m5.2 3 (by decide)]; exact hj
  rw [k5] at ex
  subst ex
  refine ⟨fun c => absurd c e5, fun _ => ⟨fun _ => ?_, fun c => absurd ((nI_ltI (b := 7) (by omega) (by omega)).mpr hj7) c⟩⟩
  have vk : vp_in (nI j) 7 := vi_nI (by omega) (by omega)
  have ck : (nI j).toNatClampNeg = j := nI_clamp (by omega)
  refine ⟨vk, fun f1 ef1 => ⟨vk, fun f2 ef2 => ⟨vk, fun f3 ef3 => ⟨vk, fun f4 ef4 v6 ev6 => ?_⟩⟩⟩⟩
  refine h1 (by unfold tf; rw [if_neg (not_not_intro e), if_neg e2, if_neg e3, if_neg e4, if_neg e5]) (by omega) f4 v6 ⟨?_, ?_, ?_, ?_, fun i i1 i2 i3 i4 => ?_⟩ ?_ ?_ (fun i i1 i2 => ?_)
  · rw [ef4, fu_ne (by decide), ef3, fu_ne (by decide), ef2, fu_ne (by decide), ef1, fu_eq]; show upd _ (nI j).toNatClampNeg _ = _; rw [ck]
  · rw [ef4, fu_ne (by decide), ef3, fu_ne (by decide), ef2, fu_eq]; show upd _ (nI j).toNatClampNeg _ = _; rw [ck, ef1, fu_ne (by decide)]
  · rw [ef4, fu_ne (by decide), ef3, fu_eq]; show upd _ (nI j).toNatClampNeg _ = _; rw [ck, ef2, fu_ne (by decide), ef1, fu_ne (by decide)]
  · rw [ef4, fu_eq]; show upd _ (nI j).toNatClampNeg _ = _; rw [ck, ef3, fu_ne (by decide), ef2, fu_ne (by decide), ef1, fu_ne (by decide)]
  · rw [ef4, fu_ne i4, ef3, fu_ne i3, ef2, fu_ne i2, ef1, fu_ne i1]
  · rw [ev6, fu_ne (by decide)]; exact m5.1
  · rw [ev6, fu_eq, k5, nI_1]
  · rw [ev6, fu_ne i2]; exact m5.2 i i1
end TX
def SOK (c : Nat → Int32) (L n : Nat) : Prop := 1 ≤ n ∧ n ≤ 5 ∧ (∀ k, k < n → sf c L (1 + 4 * k) k = 4) ∧ (n = 5 ∨ ¬ pkv c L (1 + 4 * n) = 59)
def SBAD (c : Nat → Int32) (L k s : Nat) : Prop := k < 5 ∧ (∀ j, j < k → sf c L (1 + 4 * j) j = 4) ∧ (k = 0 ∨ pkv c L (1 + 4 * k) = 59) ∧ sf c L (1 + 4 * k) k = s ∧ s < 4
def TOK (c : Nat → Int32) (L q t : Nat) : Prop := 1 ≤ t ∧ t ≤ 7 ∧ (∀ j, j < t → tf c L (q + 5 * j) = 5) ∧ (t = 7 ∨ ¬ pkv c L (q + 5 * t) = 44)
def TBAD (c : Nat → Int32) (L q j s : Nat) : Prop := j < 7 ∧ (∀ i, i < j → tf c L (q + 5 * i) = 5) ∧ (j = 0 ∨ pkv c L (q + 5 * j) = 44) ∧ tf c L (q + 5 * j) = s ∧ s < 5
/-- the rows of the steps that were read -/
def SRow (c : Nat → Int32) (L n : Nat) (w a b : Nat → Int32) : Prop := ∀ k, k < n → w k = wIdx (pkv c L (1 + 4 * k + 1)) ∧ a k = srcV (pkv c L (1 + 4 * k + 2)) k ∧ b k = srcV (pkv c L (1 + 4 * k + 3)) k
def TRow (c : Nat → Int32) (L q t : Nat) (kd tm x y : Nat → Int32) : Prop := ∀ j, j < t → kd j = kIdx (pkv c L (q + 5 * j + 1)) ∧ tm j = digV 1 9 (pkv c L (q + 5 * j + 2)) ∧ x j = digV 0 9 (pkv c L (q + 5 * j + 3)) ∧ y j = digV 0 9 (pkv c L (q + 5 * j + 4))
section TY
variable {L : Nat} {f : FF} {v : VV} {posf : Int32 → FF → VV → Prop}
/-- the reader behind k steps -/
def SS (c : Nat → Int32) (L k : Nat) (f0 f : FF) (v0 v : VV) : Prop := RI L (1 + 4 * k) v ∧ v 2 = nI k ∧ (∀ i, i ≠ 1 → i ≠ 2 → v i = v0 i) ∧ (∀ i, i ≠ 1 → i ≠ 2 → i ≠ 3 → f i = f0 i) ∧ SRow c L k (f 1) (f 2) (f 3) ∧ f 0 = c ∧ (∀ j, j < k → sf c L (1 + 4 * j) j = 4)
theorem q_rs_step {c : Nat → Int32} {k : Nat} {f0 : FF} {v0 : VV} (hk : k < 5) (h : SS c L k f0 f v0 v) (h1 : ∀ f' v', SS c L (k + 1) f0 f' v0 v' → posf 1 f' v') (h0 : ∀ s v', sf c L (1 + 4 * k) k = s → s < 4 → RI L (1 + 4 * k + s) v' → (∀ i, i ≠ 1 → i ≠ 2 → v' i = v0 i) → posf 0 f v') : Q_X3_readStep f v posf := by
  obtain ⟨r, k2, vs, fs, sr, e0, oks⟩ := h
  subst e0
  refine q_readStep r k2 hk (fun e hl f' v' hs p1 p2 ps => h1 f' v' ?_) (fun s e hs hl v' hv => h0 s v' e hs (r.mv hv hl) (fun i i1 i2 => by rw [hv.2 i i1]; exact vs i i1 i2))
  obtain ⟨s1, s2, s3, s4⟩ := hs
  have e0 : f' 0 = f 0 := s4 0 (by decide) (by decide) (by decide)
  refine ⟨⟨r.1, by omega, by rw [ps 0 (by decide) (by decide)]; exact r.2.2.1, by rw [p1]; congr 1⟩, p2, fun i i1 i2 => by rw [ps i i1 i2]; exact vs i i1 i2, fun i i1 i2 i3 => by rw [s4 i i1 i2 i3]; exact fs i i1 i2 i3, fun j hj => ?_, e0, fun j hj => ?_⟩
  · rw [s1, s2, s3]
    by_cases hjk : j = k
    · subst hjk
      rw [upd_eq, upd_eq, upd_eq]
      exact ⟨rfl, rfl, rfl⟩
    · rw [upd_ne hjk, upd_ne hjk, upd_ne hjk]
      exact sr j (by omega)
  · rcases (show j < k ∨ j = k by omega) with z | z
    · exact oks j z
    · rw [z]; exact e
theorem q_rss_loop {c : Nat → Int32} {K : Int32 → Int32 → FF → VV → Prop} {f0 : FF} {v0 : VV}
    (h1 : ∀ n x2 f v, SOK c L n → SS c L n f0 f v0 v → K 1 x2 f v)
    (h0 : ∀ k s x2 f v, SBAD c L k s → RI L (1 + 4 * k + s) v → (∀ i, i ≠ 1 → i ≠ 2 → v i = v0 i) → (∀ i, i ≠ 1 → i ≠ 2 → i ≠ 3 → f i = f0 i) → K 0 x2 f v) :
    ∀ (d k : Nat) (f : FF) (v : VV), k + d = 5 → 1 ≤ k → SS c L k f0 f v0 v → Q_X3_readSteps_L7 K (d + 2) 1 (nI k) f v := by
  intro d
  induction d with
  | zero =>
    intro k f v hk hk1 hs
    have : k = 5 := by omega
    subst this
    rw [Q_X3_readSteps_L7]
    exact ⟨fun _ => h1 5 _ f v ⟨by omega, by omega, hs.2.2.2.2.2.2, Or.inl rfl⟩ hs, fun z => absurd (by decide) z⟩
  | succ d ih =>
    intro k f v hk hk1 hs
    rw [Q_X3_readSteps_L7]
    refine ⟨fun z => absurd ((le_nI (a := 5) (by omega) (by omega)).mp z) (by omega), fun _ => ⟨fun z => absurd z (by decide), fun _ => q_peek hs.1 ?_⟩⟩
    rw [hs.2.2.2.2.2.1]
    refine ⟨fun z => h1 k _ f v ⟨hk1, by omega, hs.2.2.2.2.2.2, Or.inr z⟩ hs, fun z => q_rs_step (by omega) hs (fun f' v' hs' x ex => ?_) (fun s v' e hs4 r vs x ex => ?_)⟩
    · rw [ex, nI_1]
      exact ih (k + 1) f' v' (by omega) (by omega) hs'
    · rw [ex, nI_1]
      have bad : SBAD c L k s := ⟨by omega, hs.2.2.2.2.2.2, Or.inr z, e, hs4⟩
      rw [Q_X3_readSteps_L7]
      exact ⟨fun _ => h0 k s _ f v' bad r vs hs.2.2.2.1, fun _ => ⟨fun _ => h0 k s _ f v' bad r vs hs.2.2.2.1, fun y => absurd rfl y⟩⟩
theorem q_readSteps {c : Nat → Int32} (h : RI L 1 v) (h2 : v 2 = nI 0) (hc : f 0 = c)
    (h1 : ∀ n f' v', SOK c L n → SS c L n f f' v v' → posf 1 f' v')
    (h0 : ∀ k s f' v', SBAD c L k s → RI L (1 + 4 * k + s) v' → (∀ i, i ≠ 1 → i ≠ 2 → v' i = v i) → (∀ i, i ≠ 1 → i ≠ 2 → i ≠ 3 → f' i = f i) → posf 0 f' v') : Q_X3_readSteps f v posf := by
  unfold Q_X3_readSteps
  have S0 : SS c L 0 f f v v := ⟨h, h2, fun _ _ _ => rfl, fun _ _ _ _ => rfl, fun k hk => by omega, hc, fun j hj => by omega⟩
  refine q_rs_step (by omega) S0 (fun f' v' hs => ⟨6, q_rss_loop (fun n x2 f v ok ss => ⟨Or.inr rfl, h1 n f v ok ss⟩) (fun k s x2 f v bad r vs fs => ⟨Or.inl rfl, h0 k s f v bad r vs fs⟩) 4 1 f' v' (by omega) (by omega) hs⟩) (fun s v' e hs r vs => ⟨1, ?_⟩)
  have bad : SBAD c L 0 s := ⟨by omega, fun j hj => by omega, Or.inl rfl, e, hs⟩
  rw [Q_X3_readSteps_L7]
  exact ⟨fun z => absurd z (by decide), fun _ => ⟨fun _ => ⟨Or.inl rfl, h0 0 s f v' bad r vs (fun _ _ _ _ => rfl)⟩, fun y => absurd rfl y⟩⟩
/-- the reader behind j tests -/
def ST (c : Nat → Int32) (L q j : Nat) (f0 f : FF) (v0 v : VV) : Prop := RI L (q + 5 * j) v ∧ v 3 = nI j ∧ (∀ i, i ≠ 1 → i ≠ 3 → v i = v0 i) ∧ (∀ i, i ≠ 4 → i ≠ 5 → i ≠ 6 → i ≠ 7 → f i = f0 i) ∧ TRow c L q j (f 4) (f 5) (f 6) (f 7) ∧ f 0 = c ∧ (∀ i, i < j → tf c L (q + 5 * i) = 5)
theorem q_rt_step {c : Nat → Int32} {q j : Nat} {f0 : FF} {v0 : VV} (hj : j < 7) (h : ST c L q j f0 f v0 v) (h1 : ∀ f' v', ST c L q (j + 1) f0 f' v0 v' → posf 1 f' v') (h0 : ∀ s v', tf c L (q + 5 * j) = s → s < 5 → RI L (q + 5 * j + s) v' → (∀ i, i ≠ 1 → i ≠ 3 → v' i = v0 i) → posf 0 f v') : Q_X3_readTest f v posf := by
  obtain ⟨r, k2, vs, fs, sr, e0, oks⟩ := h
  subst e0
  refine q_readTest r k2 hj (fun e hl f' v' hs p1 p2 ps => h1 f' v' ?_) (fun s e hs hl v' hv => h0 s v' e hs (r.mv hv hl) (fun i i1 i2 => by rw [hv.2 i i1]; exact vs i i1 i2))
  obtain ⟨s1, s2, s3, s4, s5⟩ := hs
  have e0 : f' 0 = f 0 := s5 0 (by decide) (by decide) (by decide) (by decide)
  refine ⟨⟨r.1, by omega, by rw [ps 0 (by decide) (by decide)]; exact r.2.2.1, by rw [p1]; congr 1⟩, p2, fun i i1 i2 => by rw [ps i i1 i2]; exact vs i i1 i2, fun i i1 i2 i3 i4 => by rw [s5 i i1 i2 i3 i4]; exact fs i i1 i2 i3 i4, fun i hi => ?_, e0, fun i hi => ?_⟩
  · rw [s1, s2, s3, s4]
    by_cases hij : i = j
    · subst hij
      rw [upd_eq, upd_eq, upd_eq, upd_eq]
      exact ⟨rfl, rfl, rfl, rfl⟩
    · rw [upd_ne hij, upd_ne hij, upd_ne hij, upd_ne hij]
      exact sr i (by omega)
  · rcases (show i < j ∨ i = j by omega) with z | z
    · exact oks i z
    · rw [z]; exact e
theorem q_rts_loop {c : Nat → Int32} {q : Nat} {K : Int32 → Int32 → FF → VV → Prop} {f0 : FF} {v0 : VV}
    (h1 : ∀ t x2 f v, TOK c L q t → ST c L q t f0 f v0 v → K 1 x2 f v)
    (h0 : ∀ j s x2 f v, TBAD c L q j s → RI L (q + 5 * j + s) v → (∀ i, i ≠ 1 → i ≠ 3 → v i = v0 i) → (∀ i, i ≠ 4 → i ≠ 5 → i ≠ 6 → i ≠ 7 → f i = f0 i) → K 0 x2 f v) :
    ∀ (d j : Nat) (f : FF) (v : VV), j + d = 7 → 1 ≤ j → ST c L q j f0 f v0 v → Q_X3_readTests_L7 K (d + 2) 1 (nI j) f v := by
  intro d
  induction d with
  | zero =>
    intro j f v hj hj1 hs
    have : j = 7 := by omega
    subst this
    rw [Q_X3_readTests_L7]
    exact ⟨fun _ => h1 7 _ f v ⟨by omega, by omega, hs.2.2.2.2.2.2, Or.inl rfl⟩ hs, fun z => absurd (by decide) z⟩
  | succ d ih =>
    intro j f v hj hj1 hs
    rw [Q_X3_readTests_L7]
    refine ⟨fun z => absurd ((le_nI (a := 7) (by omega) (by omega)).mp z) (by omega), fun _ => ⟨fun z => absurd z (by decide), fun _ => q_peek hs.1 ?_⟩⟩
    rw [hs.2.2.2.2.2.1]
    refine ⟨fun z => h1 j _ f v ⟨hj1, by omega, hs.2.2.2.2.2.2, Or.inr z⟩ hs, fun z => q_rt_step (by omega) hs (fun f' v' hs' x ex => ?_) (fun s v' e hs4 r vs x ex => ?_)⟩
    · rw [ex, nI_1]
      exact ih (j + 1) f' v' (by omega) (by omega) hs'
    · rw [ex, nI_1]
      have bad : TBAD c L q j s := ⟨by omega, hs.2.2.2.2.2.2, Or.inr z, e, hs4⟩
      rw [Q_X3_readTests_L7]
      exact ⟨fun _ => h0 j s _ f v' bad r vs hs.2.2.2.1, fun _ => ⟨fun _ => h0 j s _ f v' bad r vs hs.2.2.2.1, fun y => absurd rfl y⟩⟩
theorem q_readTests {c : Nat → Int32} {q : Nat} (h : RI L q v) (h3 : v 3 = nI 0) (hc : f 0 = c)
    (h1 : ∀ t f' v', TOK c L q t → ST c L q t f f' v v' → posf 1 f' v')
    (h0 : ∀ j s f' v', TBAD c L q j s → RI L (q + 5 * j + s) v' → (∀ i, i ≠ 1 → i ≠ 3 → v' i = v i) → (∀ i, i ≠ 4 → i ≠ 5 → i ≠ 6 → i ≠ 7 → f' i = f i) → posf 0 f' v') : Q_X3_readTests f v posf := by
  unfold Q_X3_readTests
  have S0 : ST c L q 0 f f v v := ⟨h, h3, fun _ _ _ => rfl, fun _ _ _ _ _ => rfl, fun k hk => by omega, hc, fun j hj => by omega⟩
  refine q_rt_step (by omega) S0 (fun f' v' hs => ⟨8, q_rts_loop (fun n x2 f v ok ss => ⟨Or.inr rfl, h1 n f v ok ss⟩) (fun k s x2 f v bad r vs fs => ⟨Or.inl rfl, h0 k s f v bad r vs fs⟩) 6 1 f' v' (by omega) (by omega) hs⟩) (fun s v' e hs r vs => ⟨1, ?_⟩)
  have bad : TBAD c L q 0 s := ⟨by omega, fun j hj => by omega, Or.inl rfl, e, hs⟩
  rw [Q_X3_readTests_L7]
  exact ⟨fun z => absurd z (by decide), fun _ => ⟨fun _ => ⟨Or.inl rfl, h0 0 s f v' bad r vs (fun _ _ _ _ _ => rfl)⟩, fun y => absurd rfl y⟩⟩
end TY
/-- a text that is as told; where one is not -/
def POK (c : Nat → Int32) (L n t : Nat) : Prop := pkv c L 0 = 109 ∧ SOK c L n ∧ TOK c L (1 + 4 * n) t ∧ 1 + 4 * n + 5 * t = L
def PBAD (c : Nat → Int32) (L pl : Nat) : Prop := (¬ pkv c L 0 = 109 ∧ pl = 0) ∨ (pkv c L 0 = 109 ∧ ∃ k s, SBAD c L k s ∧ pl = 1 + 4 * k + s) ∨ (pkv c L 0 = 109 ∧ ∃ n, SOK c L n ∧ ∃ j s, TBAD c L (1 + 4 * n) j s ∧ pl = 1 + 4 * n + 5 * j + s) ∨ (pkv c L 0 = 109 ∧ ∃ n t, SOK c L n ∧ TOK c L (1 + 4 * n) t ∧ pl = 1 + 4 * n + 5 * t ∧ pl ≠ L)
theorem q_becomeEmpty {f : FF} {v : VV} {post : FF → VV → Prop} (h : ∀ v', v' 0 = 0 → v' 1 = 0 → (∀ i, i ≠ 0 → i ≠ 1 → v' i = v i) → post f v') : Q_X1_becomeEmpty f v post := by
  unfold Q_X1_becomeEmpty
  intro v1 e1 v2 e2
  refine h v2 ?_ ?_ (fun i i0 i1 => ?_)
  · rw [e2, fu_ne (by decide), e1, fu_eq]
  · rw [e2, fu_eq]
  · rw [e2, fu_ne i1, e1, fu_ne i0]
theorem mg_at {α : Type} {f g : Nat → α} {b n i : Nat} (h : i < n) : mg f b n g (b + i) = g i := by
  rw [mg_in (by omega) (by omega)]
  congr 1
  omega
theorem pkv_cong {c d : Nat → Int32} {L : Nat} (h : ∀ j, j < L → c j = d j) (p : Nat) : pkv c L p = pkv d L p := by
  unfold pkv
  split
  · exact h p (by assumption)
  · rfl
section CG
variable {c d : Nat → Int32} {L : Nat}
theorem sf_cong (h : ∀ p, pkv c L p = pkv d L p) (p k : Nat) : sf c L p k = sf d L p k := by unfold sf; simp only [h]
theorem tf_cong (h : ∀ p, pkv c L p = pkv d L p) (p : Nat) : tf c L p = tf d L p := by unfold tf; simp only [h]
theorem SOK.cong {n : Nat} (h : ∀ p, pkv c L p = pkv d L p) (q : SOK c L n) : SOK d L n := by
  unfold SOK at q ⊢; simp only [sf_cong h, h] at q; exact q
theorem SBAD.cong {k s : Nat} (h : ∀ p, pkv c L p = pkv d L p) (q : SBAD c L k s) : SBAD d L k s := by
  unfold SBAD at q ⊢; simp only [sf_cong h, h] at q; exact q
theorem TOK.cong {n t : Nat} (h : ∀ p, pkv c L p = pkv d L p) (q : TOK c L n t) : TOK d L n t := by
  unfold TOK at q ⊢; simp only [tf_cong h, h] at q; exact q
theorem TBAD.cong {n k s : Nat} (h : ∀ p, pkv c L p = pkv d L p) (q : TBAD c L n k s) : TBAD d L n k s := by
  unfold TBAD at q ⊢; simp only [tf_cong h, h] at q; exact q
theorem SRow.cong {n : Nat} {w a b : Nat → Int32} (h : ∀ p, pkv c L p = pkv d L p) (q : SRow c L n w a b) : SRow d L n w a b := by
  unfold SRow at q ⊢; simp only [h] at q; exact q
theorem TRow.cong {n t : Nat} {w a b e : Nat → Int32} (h : ∀ p, pkv c L p = pkv d L p) (q : TRow c L n t w a b e) : TRow d L n t w a b e := by
  unfold TRow at q ⊢; simp only [h] at q; exact q
end CG
theorem q_reads {i n : Nat} {f : FF} {v : VV} {posf : Int32 → FF → VV → Prop} (hin : i + n ≤ 60)
    (h1 : ∀ n' t f' v', POK (fun j => f 0 (i + j)) n n' t → f' 0 = f 0 → SRow (fun j => f 0 (i + j)) n n' (f' 2) (f' 3) (f' 4) → TRow (fun j => f 0 (i + j)) n (1 + 4 * n') t (f' 5) (f' 6) (f' 7) (f' 8) → v' 0 = v 0 → v' 1 = v 1 → v' 4 = nI n' → v' 5 = nI t → posf 1 f' v')
    (h0 : ∀ pl f' v', PBAD (fun j => f 0 (i + j)) n pl → f' 0 = f 0 → v' 0 = v 0 → v' 1 = v 1 → v' 3 = nI pl → posf 0 f' v') : Q_X3_reads (nI i) (nI n) f v posf := by
  unfold Q_X3_reads
  rw [nI_clamp (by omega), nI_clamp (by omega)]
  refine ⟨nI_pos (by omega), by decide, nI_pos (by omega), by omega, by show 0 + n ≤ 60; omega, fun f6 ef6 v7 ev7 v8 ev8 => q_becomeEmpty (fun v11 z0 z1 zs f12 ef12 v13 ev13 => ?_)⟩
  rw [mg_sb] at ef12
  subst ef12
  have g0 : f12 0 = f 0 := by rw [ef6, fu_ne (by decide)]
  have hpk : ∀ p, pkv (f12 1) n p = pkv (fun j => f 0 (i + j)) n p := fun p => pkv_cong (fun j hj => by
    rw [ef6, fu_eq]
    show va_cpy (f 0) (f 1) i 0 n j = f 0 (i + j)
    rw [pk_cpy_in (by omega) (by omega), Nat.sub_zero]) p
  have a0 : v13 0 = v 0 := by rw [ev13, mg_out (by omega), ev8, fu_ne (by decide), ev7, fu_ne (by decide)]
  have a1 : v13 1 = v 1 := by rw [ev13, mg_out (by omega), ev8, fu_ne (by decide), ev7, fu_ne (by decide)]
  have a2 : v13 2 = nI n := by rw [ev13, mg_out (by omega), ev8, fu_ne (by decide), ev7, fu_eq]
  have a3 : v13 3 = nI 0 := by rw [ev13, mg_out (by omega), ev8, fu_eq]; rfl
  have a4 : v13 4 = nI 0 := by rw [ev13]; exact (mg_at (b := 4) (i := 0) (by decide)).trans z0
  have a5 : v13 5 = nI 0 := by rw [ev13]; exact (mg_at (b := 4) (i := 1) (by decide)).trans z1
  have R0 : RI n 0 (sb v13 2) := ⟨by omega, by omega, a2, a3⟩
  refine q_pass (p := 0) (L := n) (by decide) R0 (fun e hl v16 hv16 f17 ef17 v18 ev18 => ?_) (fun e f17 ef17 v18 ev18 => ?_)
  · rw [mg_sb] at ef17
    subst ef17
    rw [show sb f17 1 0 = f17 1 from rfl, hpk] at e
    refine ⟨fun z => absurd z (by decide), fun _ => ?_⟩
    have b : ∀ k, k < 4 → v18 (2 + k) = v16 k := fun k hk => by rw [ev18]; exact mg_at hk
    have b0 : v18 0 = v 0 := by rw [ev18, mg_out (by omega)]; exact a0
    have b1 : v18 1 = v 1 := by rw [ev18, mg_out (by omega)]; exact a1
    have m16 := hv16.2
    have R1 : RI n 1 (sb v18 2) := ⟨by omega, by omega, (b 0 (by decide)).trans ((m16 0 (by decide)).trans a2), (b 1 (by decide)).trans hv16.1⟩
    have t2 : sb v18 2 2 = nI 0 := (b 2 (by decide)).trans ((m16 2 (by decide)).trans a4)
    have t3 : sb v18 2 3 = nI 0 := (b 3 (by decide)).trans ((m16 3 (by decide)).trans a5)
    refine q_readSteps (c := f17 1) R1 t2 rfl (fun n' f21 v22 ok ss f23 ef23 v24 ev24 => ?_) (fun k s f21 v22 bad r vs fs f23 ef23 v24 ev24 => ?_)
    · refine ⟨fun z => absurd z (by decide), fun _ => ?_⟩
      obtain ⟨s1, s2, s3, s4, s5, s6, s7⟩ := ss
      have d : ∀ k, k < 4 → v24 (2 + k) = v22 k := fun k hk => by rw [ev24]; exact mg_at hk
      have dd : ∀ k, k < 10 → f23 (1 + k) = f21 k := fun k hk => by rw [ef23]; exact mg_at hk
      have d0 : v24 0 = v 0 := by rw [ev24, mg_out (by omega)]; exact b0
      have d1 : v24 1 = v 1 := by rw [ev24, mg_out (by omega)]; exact b1
      have e0 : f23 0 = f 0 := by rw [ef23, mg_out (by omega)]; exact g0
      have e1 : f23 1 = f17 1 := (dd 0 (by decide)).trans s6
      have R2 : RI n (1 + 4 * n') (sb v24 2) := ⟨s1.1, s1.2.1, (d 0 (by decide)).trans s1.2.2.1, (d 1 (by decide)).trans s1.2.2.2⟩
      have t3' : sb v24 2 3 = nI 0 := (d 3 (by decide)).trans ((s3 3 (by decide) (by decide)).trans t3)
      refine q_readTests (c := f17 1) R2 t3' e1 (fun t f27 v28 tok tt f29 ef29 v30 ev30 => ?_) (fun j s f27 v28 bad r vs fs f29 ef29 v30 ev30 => ?_)
      · refine ⟨fun z => absurd z (by decide), fun _ => ?_⟩
        obtain ⟨u1, u2, u3, u4, u5, u6, u7⟩ := tt
        have x : ∀ k, k < 4 → v30 (2 + k) = v28 k := fun k hk => by rw [ev30]; exact mg_at hk
        have xx : ∀ k, k < 10 → f29 (1 + k) = f27 k := fun k hk => by rw [ef29]; exact mg_at hk
        have x0 : v30 0 = v 0 := by rw [ev30, mg_out (by omega)]; exact d0
        have x1 : v30 1 = v 1 := by rw [ev30, mg_out (by omega)]; exact d1
        have y0 : f29 0 = f 0 := by rw [ef29, mg_out (by omega)]; exact e0
        have p3 : v30 3 = nI (1 + 4 * n' + 5 * t) := (x 1 (by decide)).trans u1.2.2.2
        have p2 : v30 2 = nI n := (x 0 (by decide)).trans u1.2.2.1
        have hL := u1.2.1
        rw [p3, p2]
        refine ⟨fun z => h0 (1 + 4 * n' + 5 * t) f29 v30 (Or.inr (Or.inr (Or.inr ⟨e, n', t, ok.cong hpk, tok.cong hpk, rfl, fun w => z (by rw [w])⟩))) y0 x0 x1 p3, fun z => ?_⟩
        rw [nI_eq (by omega) (by omega)] at z
        refine h1 n' t f29 v30 ⟨e, ok.cong hpk, tok.cong hpk, z⟩ y0 ?_ ?_ x0 x1 ?_ ?_
        · have := s5.cong hpk
          rw [← dd 1 (by decide), ← dd 2 (by decide), ← dd 3 (by decide)] at this
          have k1 : f29 2 = f23 2 := (xx 1 (by decide)).trans (u4 1 (by decide) (by decide) (by decide) (by decide))
          have k2 : f29 3 = f23 3 := (xx 2 (by decide)).trans (u4 2 (by decide) (by decide) (by decide) (by decide))
          have k3 : f29 4 = f23 4 := (xx 3 (by decide)).trans (u4 3 (by decide) (by decide) (by decide) (by decide))
          rw [k1, k2, k3]
          exact this
        · have := u5.cong hpk
          rw [← xx 4 (by decide), ← xx 5 (by decide), ← xx 6 (by decide), ← xx 7 (by decide)] at this
          exact this
        · exact (x 2 (by decide)).trans ((u3 2 (by decide) (by decide)).trans ((d 2 (by decide)).trans s2))
        · exact (x 3 (by decide)).trans u2
      · refine ⟨fun _ => h0 (1 + 4 * n' + 5 * j + s) f29 v30 (Or.inr (Or.inr (Or.inl ⟨e, n', ok.cong hpk, j, s, bad.cong hpk, rfl⟩))) ?_ ?_ ?_ ?_, fun z => absurd rfl z⟩
        · rw [ef29, mg_out (by omega)]; exact e0
        · rw [ev30, mg_out (by omega)]; exact d0
        · rw [ev30, mg_out (by omega)]; exact d1
        · rw [ev30]; exact (mg_at (b := 2) (i := 1) (by decide)).trans r.2.2.2
    · refine ⟨fun _ => h0 (1 + 4 * k + s) f23 v24 (Or.inr (Or.inl ⟨e, k, s, bad.cong hpk, rfl⟩)) ?_ ?_ ?_ ?_, fun z => absurd rfl z⟩
      · rw [ef23, mg_out (by omega)]; exact g0
      · rw [ev24, mg_out (by omega)]; exact b0
      · rw [ev24, mg_out (by omega)]; exact b1
      · rw [ev24]; exact (mg_at (b := 2) (i := 1) (by decide)).trans r.2.2.2
  · rw [mg_sb] at ef17
    subst ef17
    rw [mg_sb] at ev18
    subst ev18
    rw [show sb f17 1 0 = f17 1 from rfl, hpk] at e
    exact ⟨fun _ => h0 0 f17 v18 (Or.inl ⟨e, rfl⟩) g0 a0 a1 a3, fun z => absurd rfl z⟩
/-! ===== becomeLike ===== -/
section BL
variable {n t : Nat} {f0 : FF}
theorem q_bl1 {K : Int32 → FF → VV → Prop} {v : VV} (hn : n ≤ 5) (e : v 0 = nI n) (hE : ∀ x f, (∀ k, k < n → f 0 k = f0 9 k ∧ f 1 k = f0 10 k ∧ f 2 k = f0 11 k) → (∀ i, 3 ≤ i → f i = f0 i) → K x f v) :
    ∀ (d k : Nat) (f : FF), k + d = n → (∀ j, j < k → f 0 j = f0 9 j ∧ f 1 j = f0 10 j ∧ f 2 j = f0 11 j) → (∀ i, 3 ≤ i → f i = f0 i) → Q_X1_becomeLike_L10 K (d + 1) (nI k) f v := by
  intro d
  induction d with
  | zero =>
    intro k f hk h1 h2
    rw [Q_X1_becomeLike_L10, e]
    exact ⟨fun _ => hE _ f (fun j hj => h1 j (by omega)) h2, fun c => absurd (by rw [show k = n by omega]; exact Int32.le_refl _) c⟩
  | succ d ih =>
    intro k f hk h1 h2
    rw [Q_X1_becomeLike_L10, e]
    have vk : vp_in (nI k) 5 := vi_nI (by omega) (by omega)
    have ck : (nI k).toNatClampNeg = k := nI_clamp (by omega)
    refine ⟨fun c => absurd ((le_nI (by omega) (by omega)).mp c) (by omega), fun _ => ⟨vk, vk, fun f1 ef1 => ⟨vk, vk, fun f2 ef2 => ⟨vk, vk, fun f3 ef3 x ex => ?_⟩⟩⟩⟩
    rw [ex, nI_1]
    have q0 : f3 0 = upd (f 0) k (f 9 k) := by rw [ef3, fu_ne (by decide), ef2, fu_ne (by decide), ef1, fu_eq]; show upd _ (nI k).toNatClampNeg _ = _; rw [ck]
    have q1 : f3 1 = upd (f 1) k (f 10 k) := by rw [ef3, fu_ne (by decide), ef2, fu_eq]; show upd _ (nI k).toNatClampNeg _ = _; rw [ck, ef1, fu_ne (by decide), fu_ne (by decide)]
    have q2 : f3 2 = upd (f 2) k (f 11 k) := by rw [ef3, fu_eq]; show upd _ (nI k).toNatClampNeg _ = _; rw [ck, ef2, fu_ne (by decide), fu_ne (by decide), ef1, fu_ne (by decide), fu_ne (by decide)]
    refine ih (k + 1) f3 (by omega) (fun j hj => ?_) (fun i hi => ?_)
    · rw [q0, q1, q2]
      by_cases hjk : j = k
      · rw [hjk, upd_eq, upd_eq, upd_eq, h2 9 (by decide), h2 10 (by decide), h2 11 (by decide)]
        exact ⟨rfl, rfl, rfl⟩
      · rw [upd_ne hjk, upd_ne hjk, upd_ne hjk]
        exact h1 j (by omega)
    · rw [ef3, fu_ne (by omega), ef2, fu_ne (by omega), ef1, fu_ne (by omega)]
      exact h2 i hi
theorem q_bl2 {K : Int32 → FF → VV → Prop} {v : VV} (ht : t ≤ 7) (e : v 1 = nI t) (hE : ∀ x f, (∀ k, k < t → f 3 k = f0 12 k ∧ f 4 k = f0 13 k ∧ f 5 k = f0 14 k ∧ f 6 k = f0 15 k) → (∀ i, i < 3 ∨ 7 ≤ i → f i = f0 i) → K x f v) :
    ∀ (d k : Nat) (f : FF), k + d = t → (∀ j, j < k → f 3 j = f0 12 j ∧ f 4 j = f0 13 j ∧ f 5 j = f0 14 j ∧ f 6 j = f0 15 j) → (∀ i, i < 3 ∨ 7 ≤ i → f i = f0 i) → Q_X1_becomeLike_L70 K (d + 1) (nI k) f v := by
  intro d
  induction d with
  | zero =>
    intro k f hk h1 h2
    rw [Q_X1_becomeLike_L70, e]
    exact ⟨fun _ => hE _ f (fun j hj => h1 j (by omega)) h2, fun c => absurd (by rw [show k = t by omega]; exact Int32.le_refl _) c⟩
  | succ d ih =>
    intro k f hk h1 h2
    rw [Q_X1_becomeLike_L70, e]
    have vk : vp_in (nI k) 7 := vi_nI (by omega) (by omega)
    have ck : (nI k).toNatClampNeg = k := nI_clamp (by omega)
    refine ⟨fun c => absurd ((le_nI (by omega) (by omega)).mp c) (by omega), fun _ => ⟨vk, vk, fun f1 ef1 => ⟨vk, vk, fun f2 ef2 => ⟨vk, vk, fun f3 ef3 => ⟨vk, vk, fun f4 ef4 x ex => ?_⟩⟩⟩⟩⟩
    rw [ex, nI_1]
    have q0 : f4 3 = upd (f 3) k (f 12 k) := by rw [ef4, fu_ne (by decide), ef3, fu_ne (by decide), ef2, fu_ne (by decide), ef1, fu_eq]; show upd _ (nI k).toNatClampNeg _ = _; rw [ck]
    have q1 : f4 4 = upd (f 4) k (f 13 k) := by rw [ef4, fu_ne (by decide), ef3, fu_ne (by decide), ef2, fu_eq]; show upd _ (nI k).toNatClampNeg _ = _; rw [ck, ef1, fu_ne (by decide), fu_ne (by decide)]
    have q2 : f4 5 = upd (f 5) k (f 14 k) := by rw [ef4, fu_ne (by decide), ef3, fu_eq]; show upd _ (nI k).toNatClampNeg _ = _; rw [ck, ef2, fu_ne (by decide), fu_ne (by decide), ef1, fu_ne (by decide), fu_ne (by decide)]
    have q3 : f4 6 = upd (f 6) k (f 15 k) := by rw [ef4, fu_eq]; show upd _ (nI k).toNatClampNeg _ = _; rw [ck, ef3, fu_ne (by decide), fu_ne (by decide), ef2, fu_ne (by decide), fu_ne (by decide), ef1, fu_ne (by decide), fu_ne (by decide)]
    refine ih (k + 1) f4 (by omega) (fun j hj => ?_) (fun i hi => ?_)
    · rw [q0, q1, q2, q3]
      by_cases hjk : j = k
      · rw [hjk, upd_eq, upd_eq, upd_eq, upd_eq, h2 12 (by decide), h2 13 (by decide), h2 14 (by decide), h2 15 (by decide)]
        exact ⟨rfl, rfl, rfl, rfl⟩
      · rw [upd_ne hjk, upd_ne hjk, upd_ne hjk, upd_ne hjk]
        exact h1 j (by omega)
    · rw [ef4, fu_ne (by omega), ef3, fu_ne (by omega), ef2, fu_ne (by omega), ef1, fu_ne (by omega)]
      exact h2 i hi
/-- the first rows are those of the second program -/
def Like (n t : Nat) (f : FF) (w a b kd tm x y : Nat → Int32) : Prop := (∀ k, k < n → f 0 k = w k ∧ f 1 k = a k ∧ f 2 k = b k) ∧ ∀ j, j < t → f 3 j = kd j ∧ f 4 j = tm j ∧ f 5 j = x j ∧ f 6 j = y j
theorem q_becomeLike {f : FF} {v : VV} {post : FF → VV → Prop} (hn : n ≤ 5) (ht : t ≤ 7) (e2 : v 2 = nI n) (e3 : v 3 = nI t)
    (h : ∀ f' v', Like n t f' (f 9) (f 10) (f 11) (f 12) (f 13) (f 14) (f 15) → (∀ i, 7 ≤ i → f' i = f i) → v' 0 = nI n → v' 1 = nI t → (∀ i, 2 ≤ i → v' i = v i) → post f' v') : Q_X1_becomeLike f v post := by
  unfold Q_X1_becomeLike
  intro v1 ev1
  refine ⟨n + 1, q_bl1 (f0 := f) hn (by rw [ev1, fu_eq]; exact e2) (fun x f1 a1 a2 v2 ev2 => ⟨t + 1, q_bl2 (f0 := f1) ht (by rw [ev2, fu_eq, ev1, fu_ne (by decide)]; exact e3) (fun x f2 b1 b2 => h f2 v2 ⟨fun k hk => ?_, fun k hk => ?_⟩ (fun i hi => ?_) ?_ ?_ (fun i hi => ?_)) t 0 f1 (by omega) (fun j hj => by omega) (fun _ _ => rfl)⟩) n 0 f (by omega) (fun j hj => by omega) (fun _ _ => rfl)⟩
  · rw [b2 0 (by decide), b2 1 (by decide), b2 2 (by decide)]; exact a1 k hk
  · have := b1 k hk
    rw [a2 12 (by decide), a2 13 (by decide), a2 14 (by decide), a2 15 (by decide)] at this
    exact this
  · rw [b2 i (by omega)]; exact a2 i (by omega)
  · rw [ev2, fu_ne (by decide), ev1, fu_eq]; exact e2
  · rw [ev2, fu_eq, ev1, fu_ne (by decide)]; exact e3
  · rw [ev2, fu_ne (by omega), ev1, fu_ne (by omega)]
end BL
