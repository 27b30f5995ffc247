def lI (n : Nat) : Int64 := Int64.ofNat n
theorem lI_toInt {n : Nat} (h : n < 2 ^ 31) : (lI n).toInt = n := lg_ofNat_toInt (by omega)
theorem lI_eq {a b : Nat} (ha : a < 2 ^ 31) (hb : b < 2 ^ 31) : lI a = lI b ↔ a = b := ⟨fun h => by
  have := congrArg Int64.toInt h
  rw [lI_toInt ha, lI_toInt hb] at this
  omega, fun h => h ▸ rfl⟩
theorem lI_div {a d : Nat} (ha : a < 2 ^ 31) (h0 : 0 < d) (hd : d < 2 ^ 31) : lI a / lI d = lI (a / d) := by
  apply Int64.toInt_inj.mp
  rw [lg_ldiv_nonneg (by rw [lI_toInt ha]; omega) (by rw [lI_toInt hd]; omega), lI_toInt ha, lI_toInt hd, lI_toInt (Nat.lt_of_le_of_lt (Nat.div_le_self _ _) ha)]
  rfl
theorem lI_mod {a d : Nat} (ha : a < 2 ^ 31) (h0 : 0 < d) (hd : d < 2 ^ 31) : lI a - lI a / lI d * lI d = lI (a % d) := by
  have h1 : a / d * d ≤ a := Nat.div_mul_le_self a d
  have h2 : lI (a / d) * lI d = lI (a / d * d) := (Int64.ofNat_mul _ _).symm
  have h3 : lI a - lI (a / d * d) = lI (a - a / d * d) := (Int64.ofNat_sub _ _ h1).symm
  rw [lI_div ha h0 hd, h2, h3]
  congr 1
  have := Nat.div_add_mod a d
  rw [Nat.mul_comm] at this
  omega
theorem i2l {k : Nat} (h : k < 2 ^ 31) : (nI k).toInt64 = lI k := by
  apply Int64.toInt_inj.mp
  rw [Int32.toInt_toInt64, lI_toInt h, nI_toInt h]
theorem q5_lt_loop {y0 y2 : Int64} {x4 : Int32} {K : Int64 → Int64 → Prop} : ∀ (d a b : Nat), b ≤ d → a < 2 ^ 31 → b < 2 ^ 31 → K (lI (Nat.gcd b a)) 0 → Q_X5_inLeastTerms_L6 y0 y2 x4 K (d + 1) (lI a) (lI b) := by
  intro d
  induction d with
  | zero =>
    intro a b hb ha hb2 h
    have : b = 0 := by omega
    subst this
    rw [Q_X5_inLeastTerms_L6]
    rw [Nat.gcd_zero_left] at h
    exact ⟨fun _ => h, fun c => absurd ((lg_cmp_eq _ _).mpr rfl) c⟩
  | succ d ih =>
    intro a b hb ha hb2 h
    rw [Q_X5_inLeastTerms_L6]
    rcases Nat.eq_zero_or_pos b with rfl | hb0
    · rw [Nat.gcd_zero_left] at h
      exact ⟨fun _ => h, fun c => absurd ((lg_cmp_eq _ _).mpr rfl) c⟩
    · have hn : ¬ lI b = 0 := fun e => by
        have := (lI_eq (b := 0) hb2 (by omega)).mp e
        omega
      refine ⟨fun c => absurd ((lg_cmp_eq _ _).mp c) hn, fun _ => ⟨hn, fun x ex => ?_⟩⟩
      rw [lI_mod ha hb0 hb2] at ex
      rw [ex]
      have := Nat.mod_lt a hb0
      refine ih b (a % b) (by omega) hb2 (by omega) ?_
      rw [Nat.gcd_rec] at h
      exact h
theorem q5_inLeastTerms {a b : Nat} {p : Int32} {post : Int64 → Prop} (ha : a < 2 ^ 31) (hb : b < 2 ^ 31) (h0 : 0 < b) (h : post (if p = 0 then lI (a / Nat.gcd b a) else lI (b / Nat.gcd b a))) : Q_X5_inLeastTerms (lI a) (lI b) p post := by
  have hg : 0 < Nat.gcd b a := Nat.gcd_pos_of_pos_left _ h0
  have hl : Nat.gcd b a ≤ b := Nat.gcd_le_left _ h0
  have hn : ¬ lI (Nat.gcd b a) = 0 := fun e => by
    have := (lI_eq (b := 0) (by omega) (by omega)).mp e
    omega
  refine ⟨b + 1, q5_lt_loop b a b (Nat.le_refl _) ha hb ⟨fun c => ⟨hn, ?_⟩, fun c => ⟨hn, ?_⟩⟩⟩
  · rw [lI_div hb hg (by omega)]; rw [if_neg c] at h; exact h
  · rw [lI_div ha hg (by omega)]; rw [if_pos c] at h; exact h
section A5
variable {n t : Nat} {g : FF} {u : VV} {posf : Int32 → FF → VV → Prop} {post : Int32 → Prop}
def allEq (r : Nat → Int32) (w : Int32) : Nat → Bool
  | 0 => true
  | k + 1 => allEq r w k && decide (r k = w)
/-- the weight of the reference's cover -/
def cw5 (g : FF) (n t : Nat) : Int32 := sumW (fun j => wgt (g 6 j) (g 7 j)) (cov (kls g n t) (fun j => wgt (g 6 j) (g 7 j)) (4 * n) t (2 ^ t)) t
theorem lft_cong {B B' : Nat → Int32} {S : Int32} {m : Nat} (h : ∀ q, q < m → B q = B' q) : lft B S m = lft B' S m := bs_cong (fun q hq => by rw [h q hq])
theorem cov_cong {B B' W : Nat → Int32} {m t : Nat} (h : ∀ q, q < m → B q = B' q) : ∀ k, cov B W m t k = cov B' W m t k
  | 0 => rfl
  | k + 1 => by rw [cov, cov, cov_cong h k, lft_cong h]
theorem q5_as_loop {w : Int32} {c : Nat} {K : Int32 → Int32 → FF → VV → Prop} (hc : c ≤ 8) (h8 : u 8 = nI c) (hK : ∀ x3, K (b2 (allEq (g 16) w c)) x3 g u) :
    ∀ (d k : Nat), k + d = c → Q_X5_areSo_L26 w K (d + 1) (b2 (allEq (g 16) w k)) (nI k) g u := by
  intro d
  induction d with
  | zero =>
    intro k hk
    rw [Q_X5_areSo_L26, h8, show k = c by omega]
    exact ⟨fun _ => hK _, fun c => absurd (Int32.le_refl _) c⟩
  | succ d ih =>
    intro k hk
    rw [Q_X5_areSo_L26, h8]
    have := ih (k + 1) (by omega)
    rw [allEq] at this
    refine ⟨fun c => absurd ((le_nI (by omega) (by omega)).mp c) (by omega), fun _ => ?_⟩
    cases ha : allEq (g 16) w k with
    | false =>
      rw [ha, Bool.false_and] at this
      exact ⟨fun _ x1 e1 => by rw [e1, nI_1]; exact this, fun c => absurd rfl c⟩
    | true =>
      rw [ha, Bool.true_and] at this
      rw [nI_clamp (by omega)]
      refine ⟨fun c => absurd c (by decide), fun _ => ⟨vi_nI (by omega) (by omega), fun c x1 e1 => ?_, fun c x1 e1 => ?_⟩⟩
      · rw [e1, nI_1]; rw [decide_eq_false c] at this; exact this
      · rw [e1, nI_1]; rw [decide_eq_true c] at this; exact this
/-- whether all readings are the cover's weight -/
def so5 (g : FF) (n t c : Nat) : Bool := decide (c = 0) || allEq (g 16) (cw5 g n t) c
theorem q5_areSo {c : Nat} (hP : PI n t (sb g 3) (sb u 2)) (hc : c ≤ 8) (h8 : u 8 = nI c) (h : ∀ g', S123 g g' → posf (b2 (so5 g n t c)) g' u) : Q_X5_areSo g u posf := by
  unfold Q_X5_areSo
  unfold so5 at h
  refine ⟨fun c0 => q5_findKillers hP (fun g' hs hB => ?_), fun c0 => ?_⟩
  · have hc0 : c ≠ 0 := fun z => c0 (by rw [h8, z]; rfl)
    have hP' : PI n t (sb g' 3) (sb u 2) := hP.rows (fun j hj => hs.pv j (by omega)) rfl rfl
    refine q5_findCover hP' (q5_weightOfSet hP' ⟨c + 1, q5_as_loop hc h8 (fun _ => ⟨b2_01 _, ?_⟩) c 0 (by omega)⟩)
    have := h g' hs
    rw [decide_eq_false hc0, Bool.false_or] at this
    rw [hs 6 (by decide) (by decide), hs 7 (by decide) (by decide), hs 16 (by decide) (by decide), cov_cong hB]
    exact this
  · rw [h8] at c0
    have hc0 : c = 0 := (nI_eq (a := c) (b := 0) (by omega) (by omega)).mp c0
    have := h g S123.rf
    rw [decide_eq_true hc0, Bool.true_or] at this
    exact this
end A5
