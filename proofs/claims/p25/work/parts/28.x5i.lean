/-! ===== a DAY, in the reference ===== -/
/-- an act, on a program's rows -/
def actV (k : Nat) (x : Int32) (f : FF) : FF := if k < 10 then fu f 0 (upd (f 0) k x) else if k < 20 then fu f 4 (upd (f 4) (k - 10) x) else fu (fu f 5 (upd (f 5) (k - 20) (x / 10))) 6 (upd (f 6) (k - 20) (x - x / 10 * 10))
def okT (n t k : Nat) : Bool := if k < 10 then decide (k < n) else if k < 20 then decide (k - 10 < t) else decide (k - 20 < t)
def tgt (k : Nat) : Prop := k < 5 ∨ (10 ≤ k ∧ k < 17) ∨ (20 ≤ k ∧ k < 27)
/-- a pair of a DAY that may stand there -/
def okP (x z : Int32) : Prop := ∃ k, z = nI k ∧ ((k < 5 ∧ 0 ≤ x ∧ x ≤ 4) ∨ ((10 ≤ k ∧ k < 17) ∧ 1 ≤ x ∧ x ≤ 9) ∨ ((20 ≤ k ∧ k < 27) ∧ 0 ≤ x ∧ x ≤ 99))
theorem okP_tgt {x z : Int32} (h : okP x z) : ∃ k, z = nI k ∧ tgt k := by
  obtain ⟨k, e, h⟩ := h
  refine ⟨k, e, ?_⟩
  unfold tgt
  omega
theorem rngI {z : Int32} {a b : Nat} (hb : b < 2 ^ 30) (h1 : nI a ≤ z) (h2 : z ≤ nI b) (ha : a < 2 ^ 31) : ∃ k, z = nI k ∧ a ≤ k ∧ k ≤ b := by
  have h0 : ¬ z < 0 := fun c => by
    have := Int32.le_trans h1 (Int32.le_of_lt c)
    have := (le_nI (b := 0) ha (by omega)).mp this
    have : a = 0 := by omega
    subst this
    exact absurd (Int32.lt_of_lt_of_le c h1) Int32.lt_irrefl
  obtain ⟨j, hj, ej⟩ := nI_rng (p := z) (n := b + 1) (by omega) h0 (fun c => by
    have := Int32.le_trans c h2
    have := (le_nI (by omega) (by omega)).mp this
    omega)
  subst ej
  exact ⟨j, rfl, (le_nI ha (by omega)).mp h1, by omega⟩
theorem nrng {k a b : Nat} (hk : k < 2 ^ 31) (ha : a < 2 ^ 31) (hb : b < 2 ^ 31) : (nI a ≤ nI k ∧ nI k ≤ nI b) ↔ (a ≤ k ∧ k ≤ b) := by rw [le_nI ha hk, le_nI hk hb]
theorem okP_iff {x z : Int32} : okP x z ↔ ((0 ≤ z ∧ z ≤ 4) ∧ 0 ≤ x ∧ x ≤ 4) ∨ ((10 ≤ z ∧ z ≤ 16) ∧ 1 ≤ x ∧ x ≤ 9) ∨ ((20 ≤ z ∧ z ≤ 26) ∧ 0 ≤ x ∧ x ≤ 99) := by
  constructor
  · rintro ⟨k, rfl, ⟨h, h2⟩ | ⟨h, h2⟩ | ⟨h, h2⟩⟩
    · exact Or.inl ⟨(nrng (a := 0) (b := 4) (by omega) (by omega) (by omega)).mpr (by omega), h2⟩
    · exact Or.inr (Or.inl ⟨(nrng (a := 10) (b := 16) (by omega) (by omega) (by omega)).mpr (by omega), h2⟩)
    · exact Or.inr (Or.inr ⟨(nrng (a := 20) (b := 26) (by omega) (by omega) (by omega)).mpr (by omega), h2⟩)
  · rintro (⟨h, h2⟩ | ⟨h, h2⟩ | ⟨h, h2⟩)
    · obtain ⟨k, e, a1, a2⟩ := rngI (a := 0) (b := 4) (by omega) h.1 h.2 (by omega)
      exact ⟨k, e, Or.inl ⟨by omega, h2⟩⟩
    · obtain ⟨k, e, a1, a2⟩ := rngI (a := 10) (b := 16) (by omega) h.1 h.2 (by omega)
      exact ⟨k, e, Or.inr (Or.inl ⟨by omega, h2⟩)⟩
    · obtain ⟨k, e, a1, a2⟩ := rngI (a := 20) (b := 26) (by omega) h.1 h.2 (by omega)
      exact ⟨k, e, Or.inr (Or.inr ⟨by omega, h2⟩)⟩
theorem yes1 {P Q : Prop} (h : Q) : ((1 : Int32) = 0 → P) ∧ (¬ (1 : Int32) = 0 → Q) := ⟨fun c => absurd c (by decide), fun _ => h⟩
theorem yes1' {P Q : Prop} (h : Q) : (¬ (1 : Int32) = 0 → Q) ∧ ((1 : Int32) = 0 → P) := ⟨fun _ => h, fun c => absurd c (by decide)⟩
theorem no0 {P Q : Prop} (h : P) : ((0 : Int32) = 0 → P) ∧ (¬ (0 : Int32) = 0 → Q) := ⟨fun _ => h, fun c => absurd rfl c⟩
theorem no0' {P Q : Prop} (h : P) : (¬ (0 : Int32) = 0 → Q) ∧ ((0 : Int32) = 0 → P) := ⟨fun c => absurd rfl c, fun _ => h⟩
theorem q5_isPair {x z : Int32} {post : Int32 → Prop} (h1 : okP x z → post 1) (h0 : ¬ okP x z → post 0) : Q_X5_isPair x z post := by
  rw [okP_iff] at h1 h0
  unfold Q_X5_isPair
  have T : (¬ ((0 ≤ z ∧ z ≤ 4) ∧ 0 ≤ x ∧ x ≤ 4)) → (¬ ((10 ≤ z ∧ z ≤ 16) ∧ 1 ≤ x ∧ x ≤ 9)) → Q_X5_within z (20 : Int32) (26 : Int32) (fun r_5 => (r_5 = 0 → post (0 : Int32)) ∧ (¬ r_5 = 0 → Q_X5_within x (0 : Int32) (99 : Int32) (fun r_7 => (r_7 = 0 → post (0 : Int32)) ∧ (¬ r_7 = 0 → post (1 : Int32))))) := by
    intro n1 n2
    refine q5_within (fun a b => yes1 (q5_within (fun a2 b2 => yes1 (h1 (Or.inr (Or.inr ⟨⟨a, b⟩, a2, b2⟩)))) (fun c => no0 (h0 ?_)))) (fun c => no0 (h0 ?_))
    · exact fun h => h.elim n1 (fun h => h.elim n2 (fun h => c h.2))
    · exact fun h => h.elim n1 (fun h => h.elim n2 (fun h => c h.1))
  have S : (¬ ((0 ≤ z ∧ z ≤ 4) ∧ 0 ≤ x ∧ x ≤ 4)) → Q_X5_within z (10 : Int32) (16 : Int32) (fun r_3 => (r_3 = 0 → Q_X5_within z (20 : Int32) (26 : Int32) (fun r_5 => (r_5 = 0 → post (0 : Int32)) ∧ (¬ r_5 = 0 → Q_X5_within x (0 : Int32) (99 : Int32) (fun r_7 => (r_7 = 0 → post (0 : Int32)) ∧ (¬ r_7 = 0 → post (1 : Int32)))))) ∧ (¬ r_3 = 0 → Q_X5_within x (1 : Int32) (9 : Int32) (fun r_9 => (¬ r_9 = 0 → post (1 : Int32)) ∧ (r_9 = 0 → Q_X5_within z (20 : Int32) (26 : Int32) (fun r_5 => (r_5 = 0 → post (0 : Int32)) ∧ (¬ r_5 = 0 → Q_X5_within x (0 : Int32) (99 : Int32) (fun r_7 => (r_7 = 0 → post (0 : Int32)) ∧ (¬ r_7 = 0 → post (1 : Int32))))))))) := by
    intro n1
    refine q5_within (fun a b => yes1 (q5_within (fun a2 b2 => yes1' (h1 (Or.inr (Or.inl ⟨⟨a, b⟩, a2, b2⟩)))) (fun c => no0' (T n1 (fun h => c h.2))))) (fun c => no0 (T n1 (fun h => c h.1)))
  refine q5_within (fun a b => yes1 (q5_within (fun a2 b2 => yes1' (h1 (Or.inl ⟨⟨a, b⟩, a2, b2⟩))) (fun c => no0' (S (fun h => c h.2))))) (fun c => no0 (S (fun h => c h.1)))
section D5
variable {n t : Nat} {g : FF} {u : VV} {posf : Int32 → FF → VV → Prop} {post : Int32 → Prop}
theorem actV_rest {k : Nat} {x : Int32} {f : FF} : actV k x f 1 = f 1 ∧ actV k x f 2 = f 2 ∧ actV k x f 3 = f 3 := by
  unfold actV
  split
  · exact ⟨fu_ne (by decide), fu_ne (by decide), fu_ne (by decide)⟩
  · split
    · exact ⟨fu_ne (by decide), fu_ne (by decide), fu_ne (by decide)⟩
    · refine ⟨?_, ?_, ?_⟩ <;> rw [fu_ne (by decide), fu_ne (by decide)]
/-- the rows behind an act -/
def Act5 (k : Nat) (x : Int32) (g g' : FF) : Prop := (∀ r, r < 7 → g' (3 + r) = actV k x (sb g 3) r) ∧ ∀ j, j < 3 ∨ 10 ≤ j → g' j = g j
theorem wrN {k : Nat} (hk : k < 2 ^ 31) (f : Nat → Int32) (y : Int32) : wr f (nI k) y = upd f k y := by show upd f (nI k).toNatClampNeg y = _; rw [nI_clamp hk]
theorem q5_does {k : Nat} {x : Int32} (hP : PI n t (sb g 3) (sb u 2)) (hk : tgt k) (h1 : okT n t k = true → ∀ g', Act5 k x g g' → posf 1 g' u) (h0 : okT n t k = false → posf 0 g u) : Q_X5_does x (nI k) g u posf := by
  have hn := hP.1
  have ht := hP.2.1
  unfold Q_X5_does
  unfold tgt at hk
  unfold okT at h1 h0
  refine ⟨fun c z ez => ?_, fun c => ?_⟩
  · have c : 10 ≤ k := (le_nI (a := 10) (by omega) (by omega)).mp c
    rw [i10, nI_mod (by omega) (by omega) (by omega)] at ez
    subst ez
    rw [if_neg (by omega)] at h1 h0
    refine q5_isTest hP (fun j hj ej => yes1' ⟨fun c2 => ?_, fun c2 => ?_⟩) (fun hne => no0' (h0 ?_))
    · have c2 : 20 ≤ k := (le_nI (a := 20) (by omega) (by omega)).mp c2
      have ej : k % 10 = j := (nI_eq (by omega) (by omega)).mp ej
      have ek : k - 20 = j := by omega
      rw [if_neg (by omega)] at h1
      rw [show k % 10 = j from ej]
      have vj : vp_in (nI j) 7 := vi_nI (by omega) (by omega)
      refine ⟨vj, fun g1 e1 => ⟨vj, fun g2 e2 => h1 (decide_eq_true (by omega)) g2 ⟨fun r hr => ?_, fun r hr => ?_⟩⟩⟩
      · rw [wrN (by omega)] at e1 e2
        unfold actV
        rw [if_neg (by omega), if_neg (by omega), ek]
        by_cases h6 : r = 6
        · subst h6
          rw [fu_eq, e2]; show fu g1 9 _ 9 = _; rw [fu_eq, e1, fu_ne (by decide)]; rfl
        · rw [fu_ne h6, e2, fu_ne (by omega), e1]
          by_cases h5 : r = 5
          · subst h5
            rw [fu_eq]; show fu g 8 _ 8 = _; rw [fu_eq]; rfl
          · rw [fu_ne h5, fu_ne (by omega)]; rfl
      · rw [e2, fu_ne (by omega), e1, fu_ne (by omega)]
    · have c2 : ¬ 20 ≤ k := fun z => c2 ((le_nI (a := 20) (by omega) (by omega)).mpr z)
      have ej : k % 10 = j := (nI_eq (by omega) (by omega)).mp ej
      have ek : k - 10 = j := by omega
      rw [if_pos (by omega)] at h1
      rw [show k % 10 = j from ej]
      have vj : vp_in (nI j) 7 := vi_nI (by omega) (by omega)
      refine ⟨vj, fun g1 e1 => h1 (decide_eq_true (by omega)) g1 ⟨fun r hr => ?_, fun r hr => by rw [e1, fu_ne (by omega)]⟩⟩
      rw [wrN (by omega)] at e1
      unfold actV
      rw [if_neg (by omega), if_pos (by omega), ek, e1]
      by_cases h4 : r = 4
      · subst h4
        rw [fu_eq]; show fu g 7 _ 7 = _; rw [fu_eq]; rfl
      · rw [fu_ne h4, fu_ne (by omega)]; rfl
    · by_cases c2 : k < 20
      · rw [if_pos c2]; exact decide_eq_false (fun z => hne (k - 10) z (by rw [show k % 10 = k - 10 by omega]))
      · rw [if_neg c2]; exact decide_eq_false (fun z => hne (k - 20) z (by rw [show k % 10 = k - 20 by omega]))
  · have c : ¬ 10 ≤ k := fun z => c ((le_nI (a := 10) (by omega) (by omega)).mpr z)
    rw [if_pos (by omega)] at h1 h0
    refine q5_isStep hP (fun j hj ej => yes1' ?_) (fun hne => no0' (h0 (decide_eq_false (fun z => hne k z rfl))))
    have ej : k = j := (nI_eq (by omega) (by omega)).mp ej
    subst ej
    refine ⟨vi_nI (by omega) (by omega), fun g1 e1 => h1 (decide_eq_true hj) g1 ⟨fun r hr => ?_, fun r hr => by rw [e1, fu_ne (by omega)]⟩⟩
    rw [wrN (by omega)] at e1
    unfold actV
    rw [if_pos (by omega), e1]
    by_cases h4 : r = 0
    · subst h4
      rw [fu_eq]; show fu g 3 _ 3 = _; rw [fu_eq]; rfl
    · rw [fu_ne h4, fu_ne (by omega)]; rfl
/-- the program's rows after i pairs -/
def goV (c : Nat → Int32) : Nat → FF → FF
  | 0, f => f
  | i + 1, f => actV (c (2 * i + 1)).toNatClampNeg (c (2 * i)) (goV c i f)
theorem goV_rest {c : Nat → Int32} {f : FF} : ∀ i, goV c i f 1 = f 1 ∧ goV c i f 2 = f 2 ∧ goV c i f 3 = f 3
  | 0 => ⟨rfl, rfl, rfl⟩
  | i + 1 => by
    obtain ⟨a, b, d⟩ := goV_rest (c := c) (f := f) i
    obtain ⟨a', b', d'⟩ := actV_rest (k := (c (2 * i + 1)).toNatClampNeg) (x := c (2 * i)) (f := goV c i f)
    exact ⟨a'.trans a, b'.trans b, d'.trans d⟩
theorem actV_cong {k : Nat} {x : Int32} {f f' : FF} (h : ∀ r, r < 7 → f r = f' r) : ∀ r, r < 7 → actV k x f r = actV k x f' r := by
  intro r hr
  unfold actV
  split
  · rw [h 0 (by decide)]
    by_cases e : r = 0
    · rw [e, fu_eq, fu_eq]
    · rw [fu_ne e, fu_ne e, h r hr]
  · split
    · rw [h 4 (by decide)]
      by_cases e : r = 4
      · rw [e, fu_eq, fu_eq]
      · rw [fu_ne e, fu_ne e, h r hr]
    · rw [h 5 (by decide), h 6 (by decide)]
      by_cases e : r = 6
      · rw [e, fu_eq, fu_eq]
      · rw [fu_ne e, fu_ne e]
        by_cases e : r = 5
        · rw [e, fu_eq, fu_eq]
        · rw [fu_ne e, fu_ne e, h r hr]
def Go5 (c : Nat → Int32) (i : Nat) (g g' : FF) : Prop := (∀ r, r < 7 → g' (3 + r) = goV c i (sb g 3) r) ∧ ∀ j, j < 3 ∨ 10 ≤ j → g' j = g j
theorem Go5.pi {c : Nat → Int32} {i : Nat} {g g' : FF} (h : Go5 c i g g') (hP : PI n t (sb g 3) (sb u 2)) : PI n t (sb g' 3) (sb u 2) :=
  hP.rows2 ((h.1 1 (by decide)).trans (goV_rest i).1) ((h.1 2 (by decide)).trans (goV_rest i).2.1) rfl rfl
theorem q5_go_loop {b m : Nat} {K0 K1 : Int32 → FF → VV → Prop} {g0 : FF} (hP : PI n t (sb g0 3) (sb u 2)) (hb : b + 2 * m ≤ 240) (hp : ∀ i, i < m → okP (cs (g0 2) b (2 * i)) (cs (g0 2) b (2 * i + 1)))
    (h0 : ∀ i g, i < m → (∀ j, j < i → okT n t (cs (g0 2) b (2 * j + 1)).toNatClampNeg = true) → okT n t (cs (g0 2) b (2 * i + 1)).toNatClampNeg = false → Go5 (cs (g0 2) b) i g0 g → K0 (nI i) g u)
    (h1 : ∀ x g, (∀ j, j < m → okT n t (cs (g0 2) b (2 * j + 1)).toNatClampNeg = true) → Go5 (cs (g0 2) b) m g0 g → K1 x g u) :
    ∀ (d k : Nat) (g : FF), k + d = m → (∀ j, j < k → okT n t (cs (g0 2) b (2 * j + 1)).toNatClampNeg = true) → Go5 (cs (g0 2) b) k g0 g → Q_X5_goDay_L2 (nI b) (nI m) K0 K1 (d + 1) (nI k) g u := by
  intro d
  induction d with
  | zero =>
    intro k g hk hok hG
    rw [Q_X5_goDay_L2, show k = m by omega]
    rw [show k = m by omega] at hok hG
    exact ⟨fun _ => h1 _ g hok hG, fun c => absurd (Int32.le_refl _) c⟩
  | succ d ih =>
    intro k g hk hok hG
    rw [Q_X5_goDay_L2, show (2 : Int32) * nI k = nI (2 * k) from pk_mul 2 k, nI_add, nI_1, nI_clamp (n := b + 2 * k) (by omega), nI_clamp (n := b + 2 * k + 1) (by omega)]
    refine ⟨fun c => absurd ((le_nI (by omega) (by omega)).mp c) (by omega), fun _ => ⟨vi_nI (by omega) (by omega), vi_nI (by omega) (by omega), ?_⟩⟩
    rw [hG.2 2 (by omega)]
    obtain ⟨k', ek, hk'⟩ := okP_tgt (hp k (by omega))
    have e1 : g0 2 (b + 2 * k + 1) = nI k' := ek
    have e2 : (cs (g0 2) b (2 * k + 1)).toNatClampNeg = k' := by rw [ek, nI_clamp (by unfold tgt at hk'; omega)]
    rw [e1]
    refine q5_does (hG.pi hP) hk' (fun ho g1 hA => yes1' (fun x ex => ?_)) (fun ho => no0' ?_)
    · rw [ex, nI_1]
      refine ih (k + 1) g1 (by omega) (fun j hj => ?_) ⟨fun r hr => ?_, fun j hj => (hA.2 j hj).trans (hG.2 j hj)⟩
      · rcases Nat.lt_succ_iff_lt_or_eq.mp hj with hj | rfl
        · exact hok j hj
        · rw [e2]; exact ho
      · rw [hA.1 r hr]
        show actV _ _ _ r = actV _ _ _ r
        rw [e2]
        exact actV_cong (fun r hr => hG.1 r hr) r hr
    · exact h0 k g (by omega) hok (by rw [e2]; exact ho) hG
theorem q5_goDay {b m : Nat} (hP : PI n t (sb g 3) (sb u 2)) (hb : b + 2 * m ≤ 240) (hp : ∀ i, i < m → okP (cs (g 2) b (2 * i)) (cs (g 2) b (2 * i + 1)))
    (h0 : ∀ i g', i < m → (∀ j, j < i → okT n t (cs (g 2) b (2 * j + 1)).toNatClampNeg = true) → okT n t (cs (g 2) b (2 * i + 1)).toNatClampNeg = false → Go5 (cs (g 2) b) i g g' → posf (nI i) g' u)
    (h1 : ∀ g', (∀ j, j < m → okT n t (cs (g 2) b (2 * j + 1)).toNatClampNeg = true) → Go5 (cs (g 2) b) m g g' → posf (-9) g' u) : Q_X5_goDay (nI b) (nI m) g u posf :=
  ⟨m + 1, q5_go_loop hP hb hp h0 (fun _ => h1) m 0 g (by omega) (fun _ h => absurd h (by omega)) ⟨fun _ _ => rfl, fun _ _ => rfl⟩⟩
/-- what is told of a DAY -/
def td5 (g : FF) (n t : Nat) (w : Int32) : Int32 := if w = 0 then nI (fb_ct (fun q => decide (¬ kls g n t q = 0)) (4 * n)) else if w = 2 then nI (fb_ct (eqM (sb g 3) n) (4 * n)) else if w = 3 then nI (fb_ct (least (kls g n t) (4 * n)) (4 * n)) else cw5 g n t
theorem all_cong {p q : Nat → Bool} {m : Nat} (h : ∀ k, k < m → p k = q k) : (List.range m).all p = (List.range m).all q := by
  rw [Bool.eq_iff_iff, List.all_eq_true, List.all_eq_true]
  constructor
  · intro a x hx; rw [← h x (List.mem_range.mp hx)]; exact a x hx
  · intro a x hx; rw [h x (List.mem_range.mp hx)]; exact a x hx
theorem noBy_cong {B B' : Nat → Int32} {m : Nat} (h : ∀ q, q < m → B q = B' q) {q k : Nat} (hq : q < m) (hk : k < m) : noBy B q k = noBy B' q k := by
  unfold noBy sub; rw [h q hq, h k hk]
theorem least_cong {B B' : Nat → Int32} {m : Nat} (h : ∀ q, q < m → B q = B' q) {q : Nat} (hq : q < m) : least B m q = least B' m q := by
  unfold least
  rw [h q hq]
  congr 1
  exact all_cong (fun k hk => noBy_cong h hq hk)
theorem q5_tellDay {w : Int32} (hP : PI n t (sb g 3) (sb u 2)) (hn : 0 < n) (h1 : w < 10 → ∀ g', S123 g g' → posf (td5 g n t w) g' u)
    (h2 : ∀ j, j < t → w - 10 = nI j → ∀ g', S123 g g' → posf (out (g 3) (g 4) (g 5) (g 8 j) (g 9 j) n) g' u) (h3 : ¬ w < 10 → (∀ j, j < t → w - 10 ≠ nI j) → posf (-9) g u) : Q_X5_tellDay w g u posf := by
  have ht := hP.2.1
  unfold Q_X5_tellDay
  refine ⟨fun c => q5_findKillers hP (fun g' hs hB => ?_), fun c => q5_isTest hP (fun j hj ej => yes1 ?_) (fun hne => no0 (h3 c hne))⟩
  · have h1 := h1 c
    unfold td5 at h1
    have hP' : PI n t (sb g' 3) (sb u 2) := hP.rows (fun j hj => hs.pv j (by omega)) rfl rfl
    have e6 := hs 6 (by decide) (by decide)
    have e7 := hs 7 (by decide) (by decide)
    refine ⟨fun c0 => ⟨fun c2 => ⟨fun c3 => q5_findCover hP' (q5_weightOfSet hP' ?_), fun c3 => q5_manyLeast hP' ?_⟩, fun c2 => q5_manyEqual hP' (fun g2 hs2 => ?_)⟩, fun c0 => q5_killed hP' ?_⟩
    · have := h1 g' hs
      rw [if_neg c0, if_neg c2, if_neg c3] at this
      rw [e6, e7, cov_cong hB]; exact this
    · have := h1 g' hs
      rw [if_neg c0, if_neg c2, if_pos c3] at this
      rw [fb_ct_cong (fun k hk => least_cong hB hk)]; exact this
    · have := h1 g2 (hs.tr hs2.up)
      rw [if_neg c0, if_pos c2] at this
      rw [show fb_ct (eqM (sb g' 3) n) (4 * n) = fb_ct (eqM (sb g 3) n) (4 * n) from fb_ct_cong (fun k hk => by unfold eqM; rw [cntK_rows (fun j hj => hs.pv j hj)])]
      exact this
    · have := h1 g' hs
      rw [if_pos c0] at this
      rw [show fb_ct (fun q => decide (¬ g' 13 q = 0)) (4 * n) = fb_ct (fun q => decide (¬ kls g n t q = 0)) (4 * n) from fb_ct_cong (fun k hk => by rw [hB k hk])]
      exact this
  · rw [ej, nI_clamp (by omega)]
    have vj : vp_in (nI j) 7 := vi_nI (by omega) (by omega)
    exact ⟨vj, vj, q5_plainRun hP hn (fun g' hs _ => h2 j hj ej g' hs.up)⟩
end D5
