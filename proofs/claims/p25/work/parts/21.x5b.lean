/-! ===== the reference: sets ===== -/
def popF : Nat → Nat → Nat
  | 0, _ => 0
  | d + 1, s => s % 2 + popF d (s / 2)
def sz (S : Int32) : Int32 := if S ≤ 0 then 0 else nI (popF 31 S.toNatClampNeg)
theorem q5_size_loop {x0 : Int32} {K : Int32 → Int32 → Prop} : ∀ (d s a : Nat), s < 2 ^ d → d ≤ 31 → (∀ x2, K (nI (a + popF d s)) x2) → Q_X5_size_L4 x0 K (d + 1) (nI a) (nI s) := by
  intro d
  induction d with
  | zero =>
    intro s a hs hd hK
    rw [Q_X5_size_L4]
    have : s = 0 := by omega
    subst this
    exact ⟨fun _ => hK _, fun c => absurd (by decide) c⟩
  | succ d ih =>
    intro s a hs hd hK
    rw [Q_X5_size_L4]
    have hs31 : s < 2 ^ 31 := Nat.lt_of_lt_of_le hs (Nat.pow_le_pow_right (by omega) hd)
    refine ⟨fun c => ?_, fun c x1 e1 x2 e2 => ?_⟩
    · have : s = 0 := by
        rw [i0, le_nI hs31 (by omega)] at c
        omega
      subst this
      have hz : popF (d + 1) 0 = 0 := by
        have : ∀ d, popF d 0 = 0 := by
          intro d
          induction d with
          | zero => rfl
          | succ d ih => rw [popF, Nat.zero_div, ih]
        exact this _
      have := hK (nI 0)
      rw [hz, Nat.add_zero] at this
      exact this
    · have h1 : nI s &&& 1 = nI (s % 2) := pk_andN (n := s) (by omega) 1 rfl
      have h2 : nI s >>> ((1 : Int32) &&& 31) = nI (s / 2) := pk_shrN (n := s) hs31 _ 1 (by decide)
      rw [e1, e2, h1, h2, nI_add]
      have e : 2 ^ (d + 1) = 2 * 2 ^ d := by rw [Nat.pow_succ]; omega
      refine ih (s / 2) (a + s % 2) (by omega) (by omega) (fun x2 => ?_)
      have := hK x2
      rw [popF, ← Nat.add_assoc] at this
      exact this
theorem q5_size {S : Int32} {post : Int32 → Prop} (h : post (sz S)) : Q_X5_size S post := by
  unfold Q_X5_size
  unfold sz at h
  by_cases hS : S ≤ 0
  · rw [if_pos hS] at h
    refine ⟨1, ?_⟩
    rw [Q_X5_size_L4]
    exact ⟨fun _ => h, fun c => absurd hS c⟩
  · rw [if_neg hS] at h
    obtain ⟨s, hs, rfl⟩ := nI_of (x := S) (fun z => hS (Int32.le_of_lt z))
    rw [nI_clamp hs] at h
    exact ⟨32, q5_size_loop 31 s 0 hs (by omega) (fun _ => by rw [Nat.zero_add]; exact h)⟩
section S5
variable {n t : Nat} {g : FF} {u : VV} {posf : Int32 → FF → VV → Prop} {post : Int32 → Prop}
theorem q5_isStep {p : Int32} (hP : PI n t (sb g 3) (sb u 2)) (h1 : ∀ k, k < n → p = nI k → post 1) (h0 : (∀ k, k < n → p ≠ nI k) → post 0) : Q_X5_isStep p g u post := by
  have hn := hP.1
  have e : u 2 = nI n := hP.2.2.1
  unfold Q_X5_isStep
  rw [e]
  refine ⟨fun c => h0 (fun k hk => nI_lt_ne c k (by omega)), fun c => ⟨fun c2 => h0 (nI_ge_ne (by omega) c2), fun c2 => ?_⟩⟩
  obtain ⟨j, hj, e⟩ := nI_rng (by omega) c c2
  exact h1 j hj e
theorem q5_isTest {p : Int32} (hP : PI n t (sb g 3) (sb u 2)) (h1 : ∀ k, k < t → p = nI k → post 1) (h0 : (∀ k, k < t → p ≠ nI k) → post 0) : Q_X5_isTest p g u post := by
  have ht := hP.2.1
  have e : u 3 = nI t := hP.2.2.2.1
  unfold Q_X5_isTest
  rw [e]
  refine ⟨fun c => h0 (fun k hk => nI_lt_ne c k (by omega)), fun c => ⟨fun c2 => h0 (nI_ge_ne (by omega) c2), fun c2 => ?_⟩⟩
  obtain ⟨j, hj, e⟩ := nI_rng (by omega) c c2
  exact h1 j hj e
theorem q5_isMutant {p : Int32} (hP : PI n t (sb g 3) (sb u 2)) (h1 : ∀ k, k < 4 * n → p = nI k → post 1) (h0 : (∀ k, k < 4 * n → p ≠ nI k) → post 0) : Q_X5_isMutant p g u post := by
  have hn := hP.1
  unfold Q_X5_isMutant
  refine ⟨fun c => h0 (fun k hk => nI_lt_ne c k (by omega)), fun c => q5_mutants hP ⟨fun c2 => h0 (nI_ge_ne (by omega) c2), fun c2 => ?_⟩⟩
  obtain ⟨j, hj, e⟩ := nI_rng (by omega) c c2
  exact h1 j hj e
theorem q5_weightOf {j : Nat} (hj : j < 7) (h : post (wgt (g 6 j) (g 7 j))) : Q_X5_weightOf (nI j) g u post := by
  unfold Q_X5_weightOf
  rw [nI_clamp (by omega)]
  unfold wgt at h
  have hi : vp_in (nI j) 7 := vi_nI (by omega) (by omega)
  refine ⟨hi, fun c => ⟨hi, fun c2 => ⟨hi, ?_⟩, fun c2 => ⟨hi, ?_⟩⟩, fun c => ⟨hi, ?_⟩⟩
  · rw [if_neg c, if_neg c2] at h; exact h
  · rw [if_neg c, if_pos c2] at h; exact h
  · rw [if_pos c] at h; exact h
theorem q5_kd_loop {K : Int32 → Int32 → Prop} (hP : PI n t (sb g 3) (sb u 2)) (hE : ∀ x2, K (nI (fb_ct (fun q => decide (¬ g 13 q = 0)) (4 * n))) x2) :
    ∀ (d k : Nat), k + d = 4 * n → Q_X5_killed_L4 g u K (d + 1) (nI (fb_ct (fun q => decide (¬ g 13 q = 0)) k)) (nI k) := by
  have hn := hP.1
  intro d
  induction d with
  | zero =>
    intro k hk
    rw [Q_X5_killed_L4]
    refine q5_mutants hP ?_
    rw [show k = 4 * n by omega]
    exact ⟨fun _ => hE _, fun c => absurd (Int32.le_refl _) c⟩
  | succ d ih =>
    intro k hk
    rw [Q_X5_killed_L4]
    have := ih (k + 1) (by omega)
    rw [fb_ct_succ] at this
    refine q5_mutants hP ⟨fun c => absurd ((le_nI (by omega) (by omega)).mp c) (by omega), fun _ => ⟨vi_nI (by omega) (by omega), ?_⟩⟩
    rw [nI_clamp (by omega)]
    refine ⟨fun c x1 e1 x2 e2 => ?_, fun c x1 e1 x2 e2 => ?_⟩
    · rw [e1, e2, nI_1, nI_1]; rw [if_pos (decide_eq_true c)] at this; exact this
    · rw [e1, e2, nI_1, show ∀ z : Int32, z + 0 = z from fun z => by simp]; rw [if_neg (by simp [c])] at this; exact this
theorem q5_killed (hP : PI n t (sb g 3) (sb u 2)) (h : post (nI (fb_ct (fun q => decide (¬ g 13 q = 0)) (4 * n)))) : Q_X5_killed g u post := ⟨4 * n + 1, q5_kd_loop hP (fun _ => h) (4 * n) 0 (by omega)⟩
/-- which mutants test j kills -/
def kB (B : Nat → Int32) (m j : Nat) : Int32 := bs (fun q => bt (B q) j) m
theorem q5_kb_loop {j : Nat} {K : Int32 → Int32 → Prop} (hP : PI n t (sb g 3) (sb u 2)) (hj : j < 32) (hE : ∀ x3, K (kB (g 13) (4 * n) j) x3) :
    ∀ (d k : Nat), k + d = 4 * n → Q_X5_killedBy_L4 g u (nI j) K (d + 1) (kB (g 13) k j) (nI k) := by
  have hn := hP.1
  intro d
  induction d with
  | zero =>
    intro k hk
    rw [Q_X5_killedBy_L4]
    refine q5_mutants hP ?_
    rw [show k = 4 * n by omega]
    exact ⟨fun _ => hE _, fun c => absurd (Int32.le_refl _) c⟩
  | succ d ih =>
    intro k hk
    rw [Q_X5_killedBy_L4]
    have := ih (k + 1) (by omega)
    unfold kB at this
    rw [bs] at this
    refine q5_mutants hP ⟨fun c => absurd ((le_nI (by omega) (by omega)).mp c) (by omega), fun _ => ⟨vi_nI (by omega) (by omega), fun x1 e1 x2 e2 => ?_⟩⟩
    rw [e1, e2, nI_1, nI_clamp (by omega), bit_shl _ hj (by omega)]
    exact this
theorem q5_killedBy {j : Nat} (hP : PI n t (sb g 3) (sb u 2)) (hj : j < 32) (h : post (kB (g 13) (4 * n) j)) : Q_X5_killedBy (nI j) g u post := ⟨4 * n + 1, q5_kb_loop hP hj (fun _ => h) (4 * n) 0 (by omega)⟩
theorem q5_doesSubsume {a b : Nat} (ha : a < 20) (hb : b < 20) (h1 : sub (g 13) b a = true → post 1) (h0 : sub (g 13) b a = false → post 0) : Q_X5_doesSubsume (nI a) (nI b) g u post := by
  unfold Q_X5_doesSubsume
  rw [nI_clamp (by omega), nI_clamp (by omega)]
  unfold sub at h1 h0
  have va : vp_in (nI a) 20 := vi_nI (by omega) (by omega)
  have vb : vp_in (nI b) 20 := vi_nI (by omega) (by omega)
  exact ⟨va, fun c => h0 (decide_eq_false (fun z => z.1 c)), fun c => ⟨va, vb, fun c2 => h0 (decide_eq_false (fun z => c2 z.2)), fun c2 => h1 (decide_eq_true ⟨c, c2⟩)⟩⟩
def b2 (b : Bool) : Int32 := if b = true then 1 else 0
theorem q5_il_loop {q : Nat} {K : Int32 → Int32 → Prop} (hP : PI n t (sb g 3) (sb u 2)) (hq : q < 4 * n) (b0 : Bool) (hE : ∀ x3, K (b2 (b0 && (List.range (4 * n)).all (fun r => noBy (g 13) q r))) x3) :
    ∀ (d k : Nat), k + d = 4 * n → Q_X5_isLeast_L17 g u (nI q) K (d + 1) (b2 (b0 && (List.range k).all (fun r => noBy (g 13) q r))) (nI k) := by
  have hn := hP.1
  intro d
  induction d with
  | zero =>
    intro k hk
    rw [Q_X5_isLeast_L17]
    refine q5_mutants hP ?_
    rw [show k = 4 * n by omega]
    exact ⟨fun _ => hE _, fun c => absurd (Int32.le_refl _) c⟩
  | succ d ih =>
    intro k hk
    rw [Q_X5_isLeast_L17]
    have := ih (k + 1) (by omega)
    rw [List.range_succ, List.all_append] at this
    simp only [List.all_cons, List.all_nil, Bool.and_true] at this
    rw [← Bool.and_assoc] at this
    have vq : vp_in (nI q) 20 := vi_nI (by omega) (by omega)
    have vk : vp_in (nI k) 20 := vi_nI (by omega) (by omega)
    refine q5_mutants hP ⟨fun c => absurd ((le_nI (by omega) (by omega)).mp c) (by omega), fun _ => ?_⟩
    rw [nI_clamp (by omega), nI_clamp (by omega)]
    cases hb : (b0 && (List.range k).all fun r => noBy (g 13) q r) with
    | false =>
      rw [hb] at this
      refine ⟨fun _ x1 e1 => ?_, fun c => absurd rfl c⟩
      rw [e1, nI_1]
      exact this
    | true =>
      rw [hb, Bool.true_and] at this
      refine ⟨fun c => absurd c (by decide), fun _ => q5_doesSubsume (by omega) (by omega) (fun hs => ⟨fun c => absurd c (by decide), fun _ => ⟨vk, vq, fun c x1 e1 => ?_, fun c => ⟨fun c2 x1 e1 => ?_, fun c2 x1 e1 => ?_⟩⟩⟩) (fun hs => ⟨fun _ x1 e1 => ?_, fun c => absurd rfl c⟩)⟩
      · rw [e1, nI_1]
        rw [show noBy (g 13) q k = false from by unfold noBy; rw [hs, decide_eq_true c]; rfl] at this
        exact this
      · rw [e1, nI_1]
        rw [nI_ltI (by omega) (by omega)] at c2
        rw [show noBy (g 13) q k = false from by unfold noBy; rw [hs, decide_eq_true c2]; simp] at this
        exact this
      · rw [e1, nI_1]
        rw [nI_ltI (by omega) (by omega)] at c2
        rw [show noBy (g 13) q k = true from by unfold noBy; rw [hs, decide_eq_false (not_not_intro c), decide_eq_false c2]; rfl] at this
        exact this
      · rw [e1, nI_1]
        rw [show noBy (g 13) q k = true from by unfold noBy; rw [hs]; rfl] at this
        exact this
theorem b2_01 (b : Bool) : b2 b = 0 ∨ b2 b = 1 := by cases b <;> simp [b2]
theorem q5_isLeast {q : Nat} (hP : PI n t (sb g 3) (sb u 2)) (hq : q < 4 * n) (h : post (b2 (least (g 13) (4 * n) q))) : Q_X5_isLeast (nI q) g u post := by
  have hn := hP.1
  unfold Q_X5_isLeast
  rw [nI_clamp (by omega)]
  unfold least at h
  refine ⟨vi_nI (by omega) (by omega), fun c => ⟨4 * n + 1, ?_⟩, fun c => ⟨4 * n + 1, ?_⟩⟩
  · rw [decide_eq_false (not_not_intro c)] at h
    exact q5_il_loop hP hq false (fun _ => ⟨b2_01 _, h⟩) (4 * n) 0 (by omega)
  · rw [decide_eq_true c] at h
    exact q5_il_loop hP hq true (fun _ => ⟨b2_01 _, h⟩) (4 * n) 0 (by omega)
theorem q5_sb_loop {q : Nat} {K : Int32 → Int32 → Prop} (hP : PI n t (sb g 3) (sb u 2)) (hq : q < 4 * n) (hE : ∀ x3, K (nI (fb_ct (fun k => sub (g 13) k q) (4 * n))) x3) :
    ∀ (d k : Nat), k + d = 4 * n → Q_X5_subsumed_L4 g u (nI q) K (d + 1) (nI (fb_ct (fun k => sub (g 13) k q) k)) (nI k) := by
  have hn := hP.1
  intro d
  induction d with
  | zero =>
    intro k hk
    rw [Q_X5_subsumed_L4]
    refine q5_mutants hP ?_
    rw [show k = 4 * n by omega]
    exact ⟨fun _ => hE _, fun c => absurd (Int32.le_refl _) c⟩
  | succ d ih =>
    intro k hk
    rw [Q_X5_subsumed_L4]
    have := ih (k + 1) (by omega)
    rw [fb_ct_succ] at this
    refine q5_mutants hP ⟨fun c => absurd ((le_nI (by omega) (by omega)).mp c) (by omega), fun _ => q5_doesSubsume (by omega) (by omega) (fun hs => ⟨fun c => absurd c (by decide), fun _ x1 e1 x2 e2 => ?_⟩) (fun hs => ⟨fun _ x1 e1 x2 e2 => ?_, fun c => absurd rfl c⟩)⟩
    · rw [e1, e2, nI_1, nI_1]; rw [hs, if_pos rfl] at this; exact this
    · rw [e1, e2, nI_1, show ∀ z : Int32, z + 0 = z from fun z => by simp]; rw [hs, if_neg (by decide)] at this; exact this
theorem q5_subsumed {q : Nat} (hP : PI n t (sb g 3) (sb u 2)) (hq : q < 4 * n) (h : post (nI (fb_ct (fun k => sub (g 13) k q) (4 * n)))) : Q_X5_subsumed (nI q) g u post := ⟨4 * n + 1, q5_sb_loop hP hq (fun _ => h) (4 * n) 0 (by omega)⟩
theorem q5_ml_loop {K : Int32 → Int32 → Prop} (hP : PI n t (sb g 3) (sb u 2)) (hE : ∀ x2, K (nI (fb_ct (least (g 13) (4 * n)) (4 * n))) x2) :
    ∀ (d k : Nat), k + d = 4 * n → Q_X5_manyLeast_L4 g u K (d + 1) (nI (fb_ct (least (g 13) (4 * n)) k)) (nI k) := by
  have hn := hP.1
  intro d
  induction d with
  | zero =>
    intro k hk
    rw [Q_X5_manyLeast_L4]
    refine q5_mutants hP ?_
    rw [show k = 4 * n by omega]
    exact ⟨fun _ => hE _, fun c => absurd (Int32.le_refl _) c⟩
  | succ d ih =>
    intro k hk
    rw [Q_X5_manyLeast_L4]
    have := ih (k + 1) (by omega)
    rw [fb_ct_succ] at this
    refine q5_mutants hP ⟨fun c => absurd ((le_nI (by omega) (by omega)).mp c) (by omega), fun _ => q5_isLeast hP (by omega) ?_⟩
    cases hs : least (g 13) (4 * n) k with
    | true => exact ⟨fun c => absurd c (by decide), fun _ x1 e1 x2 e2 => by rw [e1, e2, nI_1, nI_1]; rw [hs, if_pos rfl] at this; exact this⟩
    | false => exact ⟨fun _ x1 e1 x2 e2 => by rw [e1, e2, nI_1, show ∀ z : Int32, z + 0 = z from fun z => by simp]; rw [hs, if_neg (by decide)] at this; exact this, fun c => absurd rfl c⟩
theorem q5_manyLeast (hP : PI n t (sb g 3) (sb u 2)) (h : post (nI (fb_ct (least (g 13) (4 * n)) (4 * n)))) : Q_X5_manyLeast g u post := ⟨4 * n + 1, q5_ml_loop hP (fun _ => h) (4 * n) 0 (by omega)⟩
/-- what a set leaves -/
def lft (B : Nat → Int32) (S : Int32) (m : Nat) : Int32 := bs (fun q => decide (¬ B q = 0 ∧ (B q &&& S) = 0)) m
theorem or0 (x : Int32) : x ||| 0 = x := by apply b_ext; intro i hi; rw [b_or, b_0, Bool.or_false]
theorem q5_lb_loop {S : Int32} {K : Int32 → Int32 → Prop} (hP : PI n t (sb g 3) (sb u 2)) (hE : ∀ x3, K (lft (g 13) S (4 * n)) x3) :
    ∀ (d k : Nat), k + d = 4 * n → Q_X5_leftBy_L4 g u S K (d + 1) (lft (g 13) S k) (nI k) := by
  have hn := hP.1
  intro d
  induction d with
  | zero =>
    intro k hk
    rw [Q_X5_leftBy_L4]
    refine q5_mutants hP ?_
    rw [show k = 4 * n by omega]
    exact ⟨fun _ => hE _, fun c => absurd (Int32.le_refl _) c⟩
  | succ d ih =>
    intro k hk
    rw [Q_X5_leftBy_L4]
    have := ih (k + 1) (by omega)
    unfold lft at this ⊢
    rw [bs] at this
    have vk : vp_in (nI k) 20 := vi_nI (by omega) (by omega)
    refine q5_mutants hP ⟨fun c => absurd ((le_nI (by omega) (by omega)).mp c) (by omega), fun _ => ⟨vk, ?_⟩⟩
    rw [nI_clamp (by omega)]
    refine ⟨fun c x1 e1 x2 e2 => ?_, fun c => ⟨vk, fun c2 x1 e1 x2 e2 => ?_, fun c2 x1 e1 x2 e2 => ?_⟩⟩
    · rw [e1, e2, nI_1, or0]; rw [if_neg (by rw [decide_eq_true_iff]; exact fun z => z.1 c), or0] at this; exact this
    · rw [e1, e2, nI_1, or0]; rw [if_neg (by rw [decide_eq_true_iff]; exact fun z => c2 z.2), or0] at this; exact this
    · rw [e1, e2, nI_1]; rw [if_pos (decide_eq_true ⟨c, c2⟩)] at this; exact this
theorem q5_leftBy {S : Int32} (hP : PI n t (sb g 3) (sb u 2)) (h : post (lft (g 13) S (4 * n))) : Q_X5_leftBy S g u post := ⟨4 * n + 1, q5_lb_loop hP (fun _ => h) (4 * n) 0 (by omega)⟩
theorem bit_mul (x W : Int32) {k : Nat} (hk : k < 32) : ((x >>> (nI k &&& 31)) &&& 1) * W = if ((x >>> (nI k &&& 31)) &&& 1) = 1 then W else 0 := by
  rw [shr1 x hk]
  split
  · rw [if_pos rfl, Int32.one_mul]
  · rw [if_neg (by decide), Int32.zero_mul]
theorem q5_ws_loop {S : Int32} {K : Int32 → Int32 → Prop} (hP : PI n t (sb g 3) (sb u 2)) (hE : ∀ x3, K (sumW (fun j => wgt (g 6 j) (g 7 j)) S t) x3) :
    ∀ (d k : Nat), k + d = t → Q_X5_weightOfSet_L4 g u S K (d + 1) (sumW (fun j => wgt (g 6 j) (g 7 j)) S k) (nI k) := by
  have ht := hP.2.1
  have e : u 3 = nI t := hP.2.2.2.1
  intro d
  induction d with
  | zero =>
    intro k hk
    rw [Q_X5_weightOfSet_L4, e, show k = t by omega]
    exact ⟨fun _ => hE _, fun c => absurd (Int32.le_refl _) c⟩
  | succ d ih =>
    intro k hk
    rw [Q_X5_weightOfSet_L4, e]
    have := ih (k + 1) (by omega)
    rw [sumW, bit_mul _ _ (by omega)] at this
    refine ⟨fun c => absurd ((le_nI (by omega) (by omega)).mp c) (by omega), fun _ => ⟨fun c x1 e1 x2 e2 => ?_, fun c => q5_weightOf (by omega) (fun x1 e1 x2 e2 => ?_)⟩⟩
    · rw [e1, e2, nI_1]; rw [if_neg c] at this; exact this
    · rw [e1, e2, nI_1]; rw [if_pos c] at this; exact this
theorem q5_weightOfSet {S : Int32} (hP : PI n t (sb g 3) (sb u 2)) (h : post (sumW (fun j => wgt (g 6 j) (g 7 j)) S t)) : Q_X5_weightOfSet S g u post := ⟨t + 1, q5_ws_loop hP (fun _ => h) t 0 (by omega)⟩
/-- COVER of the first k sets -/
def cov (B W : Nat → Int32) (m t : Nat) : Nat → Int32
  | 0 => -9
  | k + 1 => if ¬ lft B (nI k) m = 0 then cov B W m t k else if cov B W m t k = -9 then nI k else if sumW W (cov B W m t k) t ≤ sumW W (nI k) t then cov B W m t k else nI k
theorem q5_fc_loop {K : Int32 → Int32 → Prop} (hP : PI n t (sb g 3) (sb u 2)) (hE : ∀ x2, K (cov (g 13) (fun j => wgt (g 6 j) (g 7 j)) (4 * n) t (2 ^ t)) x2) :
    ∀ (d k : Nat), k + d = 2 ^ t → Q_X5_findCover_L5 g u K (d + 1) (cov (g 13) (fun j => wgt (g 6 j) (g 7 j)) (4 * n) t k) (nI k) := by
  have ht := hP.2.1
  have h2 := two_t ht
  have e : u 3 = nI t := hP.2.2.2.1
  intro d
  induction d with
  | zero =>
    intro k hk
    rw [Q_X5_findCover_L5, e, shl_t t ht, show k = 2 ^ t by omega]
    exact ⟨fun _ => hE _, fun c => absurd (Int32.le_refl _) c⟩
  | succ d ih =>
    intro k hk
    rw [Q_X5_findCover_L5, e, shl_t t ht]
    have := ih (k + 1) (by omega)
    rw [cov] at this
    refine ⟨fun c => absurd ((le_nI (by omega) (by omega)).mp c) (by omega), fun _ => q5_leftBy hP ⟨fun c x1 e1 => ?_, fun c => ⟨fun c2 x1 e1 => ?_, fun c2 => q5_weightOfSet hP (q5_weightOfSet hP ⟨fun c3 x1 e1 => ?_, fun c3 x1 e1 => ?_⟩)⟩⟩⟩
    · rw [e1, nI_1]; rw [if_pos c] at this; exact this
    · rw [e1, nI_1]; rw [if_neg (not_not_intro c), if_pos c2] at this; exact this
    · rw [e1, nI_1]; rw [if_neg (not_not_intro c), if_neg c2, if_pos c3] at this; exact this
    · rw [e1, nI_1]; rw [if_neg (not_not_intro c), if_neg c2, if_neg c3] at this; exact this
theorem q5_findCover (hP : PI n t (sb g 3) (sb u 2)) (h : post (cov (g 13) (fun j => wgt (g 6 j) (g 7 j)) (4 * n) t (2 ^ t))) : Q_X5_findCover g u post := ⟨2 ^ t + 1, q5_fc_loop hP (fun _ => h) (2 ^ t) 0 (by omega)⟩
/-- the reference's 'better' -/
def btr5 (B W : Nat → Int32) (m : Nat) (mn : Int32) (a b : Nat) (left : Int32) : Bool := if mn = 0 then decide (¬ sz (kB B m a &&& left) ≤ sz (kB B m b &&& left)) else if mn = 1 then decide (¬ W b ≤ W a) else decide (¬ sz (kB B m a &&& left) * W b ≤ sz (kB B m b &&& left) * W a)
theorem q5_isBetter {mn left : Int32} {a b : Nat} (hP : PI n t (sb g 3) (sb u 2)) (ha : a < 7) (hb : b < 7) (h1 : btr5 (g 13) (fun j => wgt (g 6 j) (g 7 j)) (4 * n) mn a b left = true → post 1) (h0 : btr5 (g 13) (fun j => wgt (g 6 j) (g 7 j)) (4 * n) mn a b left = false → post 0) : Q_X5_isBetter (nI a) (nI b) left mn g u post := by
  unfold Q_X5_isBetter
  unfold btr5 at h1 h0
  refine q5_killedBy hP (by omega) (q5_size (q5_killedBy hP (by omega) (q5_size ⟨fun c => ⟨fun c2 => q5_weightOf hb (q5_weightOf ha ?_), fun c2 => q5_weightOf ha (q5_weightOf hb ?_)⟩, fun c => ?_⟩)))
  · rw [if_neg c, if_neg c2] at h1 h0
    exact ⟨fun c3 => h0 (by simp [c3]), fun c3 => h1 (by simp [c3])⟩
  · rw [if_neg c, if_pos c2] at h1 h0
    exact ⟨fun c3 => h0 (by simp [c3]), fun c3 => h1 (by simp [c3])⟩
  · rw [if_pos c] at h1 h0
    exact ⟨fun c3 => h0 (by simp [c3]), fun c3 => h1 (by simp [c3])⟩
end S5
