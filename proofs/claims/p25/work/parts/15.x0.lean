/-! ===== Kills ===== -/
/-- Integer.bitCount, as it is written -/
def pcnt (p : Int32) : Int32 :=
  (fun x1 : Int32 => (fun x2 : Int32 => (fun x3 : Int32 => (fun x4 : Int32 => (fun x5 : Int32 => x5 &&& 63) (x4 + (x4.toUInt32 >>> ((16 : Int32).toUInt32 &&& Int32.toUInt32 31)).toInt32)) (x3 + (x3.toUInt32 >>> ((8 : Int32).toUInt32 &&& Int32.toUInt32 31)).toInt32)) ((x2 + (x2.toUInt32 >>> ((4 : Int32).toUInt32 &&& Int32.toUInt32 31)).toInt32) &&& 252645135)) ((x1 &&& 858993459) + ((x1.toUInt32 >>> ((2 : Int32).toUInt32 &&& Int32.toUInt32 31)).toInt32 &&& 858993459))) (p - ((p.toUInt32 >>> ((1 : Int32).toUInt32 &&& Int32.toUInt32 31)).toInt32 &&& 1431655765))
theorem q_bitCount {x : Int32} {post : Int32 → Prop} (h : post (pcnt x)) : Q_J6_bitCount_0f7a4 x post := by
  unfold Q_J6_bitCount_0f7a4
  intro x1 e1 x2 e2 x3 e3 x4 e4 x5 e5
  subst e1; subst e2; subst e3; subst e4; subst e5
  exact h
def KI (t m : Nat) (v : VV) : Prop := t ≤ 7 ∧ m ≤ 20 ∧ v 0 = nI t ∧ v 1 = nI m
def sub (B : Nat → Int32) (q by_ : Nat) : Bool := decide (¬ B by_ = 0 ∧ (B by_ &&& (B q ^^^ (-1))) = 0)
section KX
variable {t m : Nat} {f : FF} {v : VV} {post : Int32 → Prop} {posf : Int32 → FF → VV → Prop}
theorem q_isSubsumed {q r : Nat} (hK : KI t m v) (hq : q < m) (hr : r < m) (h1 : sub (f 1) q r = true → post 1) (h0 : sub (f 1) q r = false → post 0) : Q_X0_isSubsumed (nI q) (nI r) f v post := by
  have hm := hK.2.1
  unfold Q_X0_isSubsumed
  rw [nI_clamp (by omega), nI_clamp (by omega)]
  unfold sub at h1 h0
  have vq : vp_in (nI q) 20 := vi_nI (by omega) (by omega)
  have vr : vp_in (nI r) 20 := vi_nI (by omega) (by omega)
  exact ⟨vr, fun c => h0 (decide_eq_false (fun z => z.1 c)), fun c => ⟨vr, vq, fun c2 => h0 (decide_eq_false (fun z => c2 z.2)), fun c2 => h1 (decide_eq_true ⟨c, c2⟩)⟩⟩
theorem q_cs_loop {q : Nat} {K : Int32 → Int32 → Prop} (hK : KI t m v) (hq : q < m) (hE : ∀ x3, K (nI (fb_ct (fun k => sub (f 1) k q) m)) x3) :
    ∀ (d k : Nat), k + d = m → Q_X0_countSubsumed_L4 f v (nI q) K (d + 1) (nI (fb_ct (fun k => sub (f 1) k q) k)) (nI k) := by
  have hm := hK.2.1
  have e1 := hK.2.2.2
  intro d
  induction d with
  | zero =>
    intro k hk
    rw [Q_X0_countSubsumed_L4, e1, show k = m by omega]
    exact ⟨fun _ => hE _, fun c => absurd (Int32.le_refl _) c⟩
  | succ d ih =>
    intro k hk
    rw [Q_X0_countSubsumed_L4, e1]
    have := ih (k + 1) (by omega)
    rw [fb_ct_succ] at this
    refine ⟨fun c => absurd ((le_nI (by omega) (by omega)).mp c) (by omega), fun _ => q_isSubsumed hK (by omega) hq (fun hs => ⟨fun c => absurd c (by decide), fun _ x1 ex1 x2 ex2 => ?_⟩) (fun hs => ⟨fun _ x1 ex1 => ?_, fun c => absurd rfl c⟩)⟩
    · rw [ex1, ex2, nI_1, nI_1]; rw [hs, if_pos rfl] at this; exact this
    · rw [ex1, nI_1]; rw [hs, if_neg (by decide)] at this; exact this
theorem q_countSubsumed {q : Nat} (hK : KI t m v) (hq : q < m) (h : post (nI (fb_ct (fun k => sub (f 1) k q) m))) : Q_X0_countSubsumed (nI q) f v post := ⟨m + 1, q_cs_loop hK hq (fun _ => h) m 0 (by omega)⟩
/-- no other one in the way, of those from k on -/
def noBy (B : Nat → Int32) (q r : Nat) : Bool := !(sub B q r && (decide (¬ B r = B q) || decide (r < q)))
theorem q_il_loop {q : Nat} {K0 K1 : Int32 → Prop} (hK : KI t m v) (hq : q < m) (h1 : (∀ r, r < m → noBy (f 1) q r = true) → ∀ x, K1 x) (h0 : (∃ r, r < m ∧ noBy (f 1) q r = false) → ∀ x, K0 x) :
    ∀ (d k : Nat), k + d = m → (∀ r, r < k → noBy (f 1) q r = true) → Q_X0_isLeast_L13 f v (nI q) K0 K1 (d + 1) (nI k) := by
  have hm := hK.2.1
  have e1 := hK.2.2.2
  intro d
  induction d with
  | zero =>
    intro k hk ha
    rw [Q_X0_isLeast_L13, e1, show k = m by omega]
    refine ⟨fun _ => h1 (fun r hr => ha r (by omega)) _, fun c => absurd (Int32.le_refl _) c⟩
  | succ d ih =>
    intro k hk ha
    rw [Q_X0_isLeast_L13, e1]
    have go : noBy (f 1) q k = true → Q_X0_isLeast_L13 f v (nI q) K0 K1 (d + 1) (nI (k + 1)) := fun hn => ih (k + 1) (by omega) (fun r hr => by
      rcases (show r < k ∨ r = k by omega) with h | h
      · exact ha r h
      · rw [h]; exact hn)
    have vk : vp_in (nI k) 20 := vi_nI (by omega) (by omega)
    have vq : vp_in (nI q) 20 := vi_nI (by omega) (by omega)
    refine ⟨fun c => absurd ((le_nI (by omega) (by omega)).mp c) (by omega), fun _ => q_isSubsumed hK hq (by omega) (fun hs => ⟨fun c => absurd c (by decide), fun _ => ⟨vk, vq, ?_⟩⟩) (fun hs => ⟨fun _ x1 ex1 => ?_, fun c => absurd rfl c⟩)⟩
    · rw [nI_clamp (by omega), nI_clamp (by omega)]
      refine ⟨fun c => h0 ⟨k, by omega, ?_⟩ _, fun c => ⟨fun c2 x1 ex1 => ?_, fun c2 => h0 ⟨k, by omega, ?_⟩ _⟩⟩
      · unfold noBy; rw [hs, decide_eq_true c]; rfl
      · rw [ex1, nI_1]
        rw [le_nI (by omega) (by omega)] at c2
        exact go (by unfold noBy; rw [hs, decide_eq_false (not_not_intro c), decide_eq_false (by omega)]; rfl)
      · rw [le_nI (by omega) (by omega)] at c2
        unfold noBy; rw [hs, decide_eq_true (show k < q by omega)]; simp
    · rw [ex1, nI_1]
      exact go (by unfold noBy; rw [hs]; rfl)
/-- LEAST -/
def least (B : Nat → Int32) (m q : Nat) : Bool := decide (¬ B q = 0) && (List.range m).all (fun r => noBy B q r)
theorem q_isLeast {q : Nat} (hK : KI t m v) (hq : q < m) (h1 : least (f 1) m q = true → post 1) (h0 : least (f 1) m q = false → post 0) : Q_X0_isLeast (nI q) f v post := by
  have hm := hK.2.1
  unfold Q_X0_isLeast
  rw [nI_clamp (by omega)]
  refine ⟨vi_nI (by omega) (by omega), fun c => ⟨m + 1, q_il_loop hK hq (fun ha _ => h1 ?_) (fun hx _ => h0 ?_) m 0 (by omega) (fun r hr => by omega)⟩, fun c => h0 ?_⟩
  · unfold least; rw [decide_eq_true c, Bool.true_and, List.all_eq_true]
    exact fun r hr => ha r (List.mem_range.mp hr)
  · obtain ⟨r, hr, hn⟩ := hx
    unfold least
    have : (List.range m).all (fun r => noBy (f 1) q r) = false := by
      rw [List.all_eq_false]
      exact ⟨r, List.mem_range.mpr hr, by simp [hn]⟩
    rw [this, Bool.and_false]
  · unfold least; rw [decide_eq_false (not_not_intro c), Bool.false_and]
theorem q_cl_loop {K : Int32 → Int32 → Prop} (hK : KI t m v) (hE : ∀ x2, K (nI (fb_ct (least (f 1) m) m)) x2) :
    ∀ (d k : Nat), k + d = m → Q_X0_countLeast_L4 f v K (d + 1) (nI (fb_ct (least (f 1) m) k)) (nI k) := by
  have hm := hK.2.1
  have e1 := hK.2.2.2
  intro d
  induction d with
  | zero =>
    intro k hk
    rw [Q_X0_countLeast_L4, e1, show k = m by omega]
    exact ⟨fun _ => hE _, fun c => absurd (Int32.le_refl _) c⟩
  | succ d ih =>
    intro k hk
    rw [Q_X0_countLeast_L4, e1]
    have := ih (k + 1) (by omega)
    rw [fb_ct_succ] at this
    refine ⟨fun c => absurd ((le_nI (by omega) (by omega)).mp c) (by omega), fun _ => q_isLeast hK (by omega) (fun hs => ⟨fun c => absurd c (by decide), fun _ x1 ex1 x2 ex2 => ?_⟩) (fun hs => ⟨fun _ x1 ex1 => ?_, fun c => absurd rfl c⟩)⟩
    · rw [ex1, ex2, nI_1, nI_1]; rw [hs, if_pos rfl] at this; exact this
    · rw [ex1, nI_1]; rw [hs, if_neg (by decide)] at this; exact this
theorem q_countLeast (hK : KI t m v) (h : post (nI (fb_ct (least (f 1) m) m))) : Q_X0_countLeast f v post := ⟨m + 1, q_cl_loop hK (fun _ => h) m 0 (by omega)⟩
/-- HARDEST of the first k: the number and how many kill it -/
def hard (B : Nat → Int32) : Nat → Int32 × Int32
  | 0 => (-9, 8)
  | k + 1 => if pcnt (B k) ≤ 0 ∨ (hard B k).2 ≤ pcnt (B k) then hard B k else (nI k, pcnt (B k))
theorem q_hm_loop {K : Int32 → Int32 → Int32 → Prop} (hK : KI t m v) (hE : ∀ x2 x3, K (hard (f 1) m).1 x2 x3) :
    ∀ (d k : Nat), k + d = m → Q_X0_hardestMutant_L8 f v K (d + 1) (hard (f 1) k).1 (hard (f 1) k).2 (nI k) := by
  have hm := hK.2.1
  have e1 := hK.2.2.2
  intro d
  induction d with
  | zero =>
    intro k hk
    rw [Q_X0_hardestMutant_L8, e1, show k = m by omega]
    exact ⟨fun _ => hE _ _, fun c => absurd (Int32.le_refl _) c⟩
  | succ d ih =>
    intro k hk
    rw [Q_X0_hardestMutant_L8, e1]
    have := ih (k + 1) (by omega)
    rw [hard] at this
    refine ⟨fun c => absurd ((le_nI (by omega) (by omega)).mp c) (by omega), fun _ => ⟨vi_nI (by omega) (by omega), q_bitCount ?_⟩⟩
    rw [nI_clamp (by omega)]
    refine ⟨fun c x1 ex1 => ?_, fun c => ⟨fun c2 x1 ex1 => ?_, fun c2 x1 ex1 => ?_⟩⟩
    · rw [ex1, nI_1]; rw [if_pos (Or.inl c)] at this; exact this
    · rw [ex1, nI_1]; rw [if_pos (Or.inr c2)] at this; exact this
    · rw [ex1, nI_1]; rw [if_neg (fun z => z.elim c c2)] at this; exact this
theorem q_hardestMutant (hK : KI t m v) (h : post (hard (f 1) m).1) : Q_X0_hardestMutant f v post := ⟨m + 1, q_hm_loop hK (fun _ _ => h) m 0 (by omega)⟩
/-- what a set weighs -/
def sumW (W : Nat → Int32) (S : Int32) : Nat → Int32
  | 0 => 0
  | k + 1 => sumW W S k + ((S >>> (nI k &&& 31)) &&& 1) * W k
theorem q_wo_loop {S : Int32} {K : Int32 → Int32 → Prop} (hK : KI t m v) (hE : ∀ x3, K (sumW (f 2) S t) x3) :
    ∀ (d k : Nat), k + d = t → Q_X0_weightOf_L4 f v S K (d + 1) (sumW (f 2) S k) (nI k) := by
  have ht := hK.1
  have e1 := hK.2.2.1
  intro d
  induction d with
  | zero =>
    intro k hk
    rw [Q_X0_weightOf_L4, e1, show k = t by omega]
    exact ⟨fun _ => hE _, fun c => absurd (Int32.le_refl _) c⟩
  | succ d ih =>
    intro k hk
    rw [Q_X0_weightOf_L4, e1]
    have := ih (k + 1) (by omega)
    rw [sumW] at this
    refine ⟨fun c => absurd ((le_nI (by omega) (by omega)).mp c) (by omega), fun _ => ⟨vi_nI (by omega) (by omega), fun x1 ex1 x2 ex2 => ?_⟩⟩
    rw [ex1, ex2, nI_1, nI_clamp (by omega)]
    exact this
theorem q_weightOf {S : Int32} (hK : KI t m v) (h : post (sumW (f 2) S t)) : Q_X0_weightOf S f v post := ⟨t + 1, q_wo_loop hK (fun _ => h) t 0 (by omega)⟩
/-- which mutants a set kills -/
def unK (B : Nat → Int32) (S : Int32) : Nat → Int32
  | 0 => 0
  | k + 1 => if ((S >>> (nI k &&& 31)) &&& 1) = 0 then unK B S k else unK B S k ||| B k
theorem q_kb_loop {S : Int32} {K : Int32 → Int32 → Prop} (hK : KI t m v) (hE : ∀ x3, K (unK (f 0) S t) x3) :
    ∀ (d k : Nat), k + d = t → Q_X0_killedBy_L4 f v S K (d + 1) (unK (f 0) S k) (nI k) := by
  have ht := hK.1
  have e1 := hK.2.2.1
  intro d
  induction d with
  | zero =>
    intro k hk
    rw [Q_X0_killedBy_L4, e1, show k = t by omega]
    exact ⟨fun _ => hE _, fun c => absurd (Int32.le_refl _) c⟩
  | succ d ih =>
    intro k hk
    rw [Q_X0_killedBy_L4, e1]
    have := ih (k + 1) (by omega)
    rw [unK] at this
    refine ⟨fun c => absurd ((le_nI (by omega) (by omega)).mp c) (by omega), fun _ => ⟨fun c x1 ex1 => ?_, fun c => ⟨vi_nI (by omega) (by omega), fun x1 ex1 x2 ex2 => ?_⟩⟩⟩
    · rw [ex1, nI_1]; rw [if_pos c] at this; exact this
    · rw [ex1, ex2, nI_1, nI_clamp (by omega)]; rw [if_neg c] at this; exact this
theorem q_killedBy {S : Int32} (hK : KI t m v) (h : post (unK (f 0) S t)) : Q_X0_killedBy S f v post := ⟨t + 1, q_kb_loop hK (fun _ => h) t 0 (by omega)⟩
/-- COVER of the first k sets, and its weight -/
def light (f : FF) (t : Nat) (kd : Int32) : Nat → Int32 × Int32
  | 0 => (0, 2147483647)
  | k + 1 => if (light f t kd k).2 ≤ sumW (f 2) (nI k) t ∨ ¬ unK (f 0) (nI k) t = kd then light f t kd k else (nI k, sumW (f 2) (nI k) t)
theorem shl_t : ∀ t, t ≤ 7 → (1 : Int32) <<< (nI t &&& 31) = nI (2 ^ t) := by decide +kernel
theorem two_t {t : Nat} (h : t ≤ 7) : 2 ^ t ≤ 128 := Nat.pow_le_pow_right (by omega) h
theorem q_lt_loop {K : Int32 → Int32 → Int32 → Prop} (hK : KI t m v) (hE : ∀ x2 x3, K (light f t (v 2) (2 ^ t)).1 x2 x3) :
    ∀ (d k : Nat), k + d = 2 ^ t → Q_X0_lightestTests_L7 f v K (d + 1) (light f t (v 2) k).1 (light f t (v 2) k).2 (nI k) := by
  have ht := hK.1
  have e1 := hK.2.2.1
  have h2 := two_t ht
  intro d
  induction d with
  | zero =>
    intro k hk
    rw [Q_X0_lightestTests_L7, e1, shl_t t ht, show k = 2 ^ t by omega]
    exact ⟨fun _ => hE _ _, fun c => absurd (Int32.le_refl _) c⟩
  | succ d ih =>
    intro k hk
    rw [Q_X0_lightestTests_L7, e1, shl_t t ht]
    have := ih (k + 1) (by omega)
    rw [light] at this
    refine ⟨fun c => absurd ((le_nI (by omega) (by omega)).mp c) (by omega), fun _ => q_weightOf hK ⟨fun c x1 ex1 => ?_, fun c => q_killedBy hK ⟨fun c2 x1 ex1 => ?_, fun c2 x1 ex1 => ?_⟩⟩⟩
    · rw [ex1, nI_1]; rw [if_pos (Or.inl c)] at this; exact this
    · rw [ex1, nI_1]; rw [if_pos (Or.inr c2)] at this; exact this
    · rw [ex1, nI_1]; rw [if_neg (fun z => z.elim c (fun z2 => z2 c2))] at this; exact this
theorem q_lightestTests (hK : KI t m v) (h : post (light f t (v 2) (2 ^ t)).1) : Q_X0_lightestTests f v post := ⟨2 ^ t + 1, q_lt_loop hK (fun _ _ => h) (2 ^ t) 0 (by omega)⟩
/-- is test a better than test b, by a manner -/
def btr (f : FF) (mn : Int32) (a b : Nat) (left : Int32) : Bool := if mn = 0 then decide (¬ pcnt (f 0 a &&& left) ≤ pcnt (f 0 b &&& left)) else if mn = 1 then decide (¬ f 2 b ≤ f 2 a) else decide (¬ pcnt (f 0 a &&& left) * f 2 b ≤ pcnt (f 0 b &&& left) * f 2 a)
theorem q_isBetter {mn left : Int32} {a b : Nat} (ha : a < 7) (hb : b < 7) (h1 : btr f mn a b left = true → post 1) (h0 : btr f mn a b left = false → post 0) : Q_X0_isBetter mn (nI a) (nI b) left f v post := by
  unfold Q_X0_isBetter
  have va : vp_in (nI a) 7 := vi_nI (by omega) (by omega)
  have vb : vp_in (nI b) 7 := vi_nI (by omega) (by omega)
  rw [nI_clamp (by omega), nI_clamp (by omega)]
  unfold btr at h1 h0
  refine ⟨va, q_bitCount ⟨vb, q_bitCount ⟨fun c => ?_, fun c => ⟨fun c2 => ⟨va, vb, ?_⟩, fun c2 => ⟨vb, va, ?_⟩⟩⟩⟩⟩
  · rw [if_pos c] at h1 h0
    exact ⟨fun c3 => h0 (by simp [c3]), fun c3 => h1 (by simp [c3])⟩
  · rw [if_neg c, if_pos c2] at h1 h0
    exact ⟨fun c3 => h0 (by simp [c3]), fun c3 => h1 (by simp [c3])⟩
  · rw [if_neg c, if_neg c2] at h1 h0
    exact ⟨fun c3 => h0 (by simp [c3]), fun c3 => h1 (by simp [c3])⟩
/-- the best one of the first k tests (of the first one, where k is 1) -/
def best (f : FF) (mn left : Int32) : Nat → Nat
  | 0 => 0
  | k + 1 => if k = 0 then 0 else if (f 0 k &&& left) = 0 then best f mn left k else if (f 0 (best f mn left k) &&& left) = 0 then k else if btr f mn k (best f mn left k) left = true then k else best f mn left k
theorem best_lt (f : FF) (mn left : Int32) : ∀ k, 0 < k → best f mn left k < k
  | 0, h => absurd h (by omega)
  | k + 1, _ => by
    rw [best]
    by_cases h0 : k = 0
    · rw [if_pos h0]; omega
    · have := best_lt f mn left k (by omega)
      rw [if_neg h0]
      split
      · omega
      · split
        · omega
        · split <;> omega
theorem q_bt_loop {mn left : Int32} {K : Int32 → Int32 → Prop} (hK : KI t m v) (ht0 : 0 < t) (hE : ∀ x4, K (nI (best f mn left t)) x4) :
    ∀ (d k : Nat), 0 < k → k + d = t → Q_X0_bestTest_L5 f v mn left K (d + 1) (nI (best f mn left k)) (nI k) := by
  have ht := hK.1
  have e1 := hK.2.2.1
  intro d
  induction d with
  | zero =>
    intro k h0 hk
    rw [Q_X0_bestTest_L5, e1, show k = t by omega]
    exact ⟨fun _ => hE _, fun c => absurd (Int32.le_refl _) c⟩
  | succ d ih =>
    intro k h0 hk
    rw [Q_X0_bestTest_L5, e1]
    have hb := best_lt f mn left k h0
    have := ih (k + 1) (by omega) (by omega)
    rw [best, if_neg (by omega)] at this
    refine ⟨fun c => absurd ((le_nI (by omega) (by omega)).mp c) (by omega), fun _ => ⟨vi_nI (by omega) (by omega), ?_⟩⟩
    rw [nI_clamp (by omega), nI_clamp (by omega)]
    refine ⟨fun c x1 ex1 => ?_, fun c => ⟨vi_nI (by omega) (by omega), fun c2 x1 ex1 => ?_, fun c2 => q_isBetter (by omega) (by omega) (fun hs => ⟨fun z => absurd z (by decide), fun _ x1 ex1 => ?_⟩) (fun hs => ⟨fun _ x1 ex1 => ?_, fun z => absurd rfl z⟩)⟩⟩
    · rw [ex1, nI_1]; rw [if_pos c] at this; exact this
    · rw [ex1, nI_1]; rw [if_neg c, if_pos c2] at this; exact this
    · rw [ex1, nI_1]; rw [if_neg c, if_neg c2, if_pos hs] at this; exact this
    · rw [ex1, nI_1]; rw [if_neg c, if_neg c2, if_neg (by rw [hs]; decide)] at this; exact this
theorem q_bestTest {mn left : Int32} (hK : KI t m v) (ht0 : 0 < t) (h : post (nI (best f mn left t))) : Q_X0_bestTest mn left f v post := by
  have := q_bt_loop (mn := mn) (left := left) (K := fun x3 x4 => post x3) hK ht0 (fun _ => h) (t - 1) 1 (by omega) (by omega)
  exact ⟨t - 1 + 1, this⟩
end KX
