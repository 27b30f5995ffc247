theorem PI.rows2 {n t : Nat} {f f' : FF} {v v' : VV} (h : PI n t f v) (h1 : f' 1 = f 1) (h2 : f' 2 = f 2) (e0 : v' 0 = v 0) (e1 : v' 1 = v 1) : PI n t f' v' := by
  obtain ⟨a1, a2, a3, a4, a5⟩ := h
  refine ⟨a1, a2, e0.trans a3, e1.trans a4, fun k hk => ?_⟩
  rw [h1, h2]
  exact a5 k hk
theorem upd_upd (f : Nat → Int32) (j : Nat) (x y : Int32) : upd (upd f j x) j y = upd f j y := by
  funext i
  by_cases h : i = j
  · rw [h, upd_eq, upd_eq]
  · rw [upd_ne h, upd_ne h, upd_ne h]
theorem upd_id (f : Nat → Int32) (j : Nat) : upd f j (f j) = f := by
  funext i
  by_cases h : i = j
  · rw [h, upd_eq]
  · rw [upd_ne h]
theorem kls_cong {g g' : FF} (h : ∀ r, r ≠ 12 → r ≠ 13 → g r = g' r) (n t q : Nat) : kls g n t q = kls g' n t q := by
  unfold kls
  exact bs_cong (fun k _ => kt_rows (fun j hj => h (3 + j) (by omega) (by omega)) n k q)
theorem cw5_cong {g g' : FF} (h : ∀ r, r ≠ 12 → r ≠ 13 → g r = g' r) (n t : Nat) : cw5 g n t = cw5 g' n t := by
  unfold cw5
  rw [h 6 (by decide) (by decide), h 7 (by decide) (by decide), cov_cong (fun q _ => kls_cong h n t q)]
theorem so5_cong {g g' : FF} (h : ∀ r, r ≠ 12 → r ≠ 13 → g r = g' r) {n t c : Nat} : so5 g n t c = so5 g' n t c := by
  unfold so5
  rw [cw5_cong h, h 16 (by decide) (by decide)]
section K5
variable {n t : Nat} {g : FF} {u : VV} {posf : Int32 → FF → VV → Prop} {post : Int32 → Prop}
theorem q5_kinds_loop {j c : Nat} {z : Int32} {K : Int32 → Int32 → FF → VV → Prop} {g0 : FF} (hj : j < 7) (hP : PI n t (sb g0 3) (sb u 2)) (hc : c ≤ 8) (h8 : u 8 = nI c)
    (hK : ∀ x4 (g : FF), (∀ r, r ≠ 6 → r ≠ 12 → r ≠ 13 → g r = g0 r) → (∃ x, g 6 = upd (g0 6) j x) → K (bs (fun k => so5 (fu g0 6 (upd (g0 6) j (nI k))) n t c) 3) x4 g u) :
    ∀ (d k : Nat) (g : FF), k + d = 3 → (∀ r, r ≠ 6 → r ≠ 12 → r ≠ 13 → g r = g0 r) → (∃ x, g 6 = upd (g0 6) j x) → Q_X5_kinds_L22 (nI j) z K (d + 1) (bs (fun k => so5 (fu g0 6 (upd (g0 6) j (nI k))) n t c) k) (nI k) g u := by
  intro d
  induction d with
  | zero =>
    intro k g hk hg hx
    rw [Q_X5_kinds_L22, show k = 3 by omega]
    exact ⟨fun _ => hK _ g hg hx, fun c => absurd (Int32.le_refl _) c⟩
  | succ d ih =>
    intro k g hk hg hx
    rw [Q_X5_kinds_L22]
    refine ⟨fun c => absurd ((le_nI (a := 3) (by omega) (by omega)).mp c) (by omega), fun _ => ⟨vi_nI (by omega) (by omega), fun g1 eg1 => ?_⟩⟩
    obtain ⟨x, ex⟩ := hx
    have r1 : g1 6 = upd (g0 6) j (nI k) := by
      rw [eg1, fu_eq]; show upd _ (nI j).toNatClampNeg _ = _; rw [nI_clamp (by omega), ex, upd_upd]
    have rr : ∀ r, r ≠ 6 → r ≠ 12 → r ≠ 13 → g1 r = g0 r := fun r a b c => by rw [eg1, fu_ne a, hg r a b c]
    have hP1 : PI n t (sb g1 3) (sb u 2) := hP.rows2 (rr 4 (by decide) (by decide) (by decide)) (rr 5 (by decide) (by decide) (by decide)) rfl rfl
    have es : so5 g1 n t c = so5 (fu g0 6 (upd (g0 6) j (nI k))) n t c := so5_cong (fun r a b => by
      by_cases hr : r = 6
      · rw [hr, r1, fu_eq]
      · rw [fu_ne hr, rr r hr a b])
    refine q5_areSo hP1 hc h8 (fun g2 hs2 => ?_)
    have := ih (k + 1) g2 (by omega) (fun r a b c => by rw [hs2 r b c, rr r a b c]) ⟨nI k, by rw [hs2 6 (by decide) (by decide), r1]⟩
    rw [bs] at this
    rw [es]
    cases hb : so5 (fu g0 6 (upd (g0 6) j (nI k))) n t c with
    | false => exact ⟨fun _ x1 e1 x2 e2 => by rw [e1, e2, nI_1]; rw [hb, if_neg (by decide)] at this; exact this, fun c => absurd rfl c⟩
    | true => exact ⟨fun c => absurd c (by decide), fun _ x1 e1 x2 e2 => by rw [e1, e2, nI_1]; rw [hb, if_pos rfl] at this; exact this⟩
theorem q5_kinds {p : Int32} {c : Nat} (hP : PI n t (sb g 3) (sb u 2)) (hc : c ≤ 8) (h8 : u 8 = nI c)
    (h1 : ∀ j, j < t → p = nI j → ∀ g', S123 g g' → posf (bs (fun k => so5 (fu g 6 (upd (g 6) j (nI k))) n t c) 3) g' u) (h0 : (∀ j, j < t → p ≠ nI j) → posf (-1) g u) : Q_X5_kinds p g u posf := by
  have hn := hP.1
  have ht := hP.2.1
  unfold Q_X5_kinds
  refine q5_isTest hP (fun j hj ej => ⟨fun _ => ?_, fun c => absurd c (by decide)⟩) (fun hne => ⟨fun c => absurd rfl c, fun _ => h0 hne⟩)
  subst ej
  refine ⟨vi_nI (by omega) (by omega), fun z ez => ⟨3 + 1, ?_⟩⟩
  rw [nI_clamp (by omega)] at ez
  refine q5_kinds_loop (by omega) hP hc h8 (fun x4 g' hg hx => ⟨vi_nI (by omega) (by omega), fun g2 eg2 => h1 j hj rfl g2 (fun r a b => ?_)⟩) 3 0 g (by omega) (fun _ _ _ _ => rfl) ⟨g 6 j, (upd_id _ _).symm⟩
  by_cases hr : r = 6
  · obtain ⟨x, ex⟩ := hx
    rw [hr, eg2, fu_eq]; show upd _ (nI j).toNatClampNeg _ = _
    rw [nI_clamp (by omega), ex, upd_upd, ez, upd_id]
  · rw [eg2, fu_ne hr, hg r hr a b]
theorem q5_ways_loop {j c : Nat} {z : Int32} {K : Int32 → Int32 → FF → VV → Prop} {g0 : FF} (hj : j < 5) (hP : PI n t (sb g0 3) (sb u 2)) (hc : c ≤ 8) (h8 : u 8 = nI c)
    (hK : ∀ x4 (g : FF), (∀ r, r ≠ 3 → r ≠ 12 → r ≠ 13 → g r = g0 r) → (∃ x, g 3 = upd (g0 3) j x) → K (bs (fun k => so5 (fu g0 3 (upd (g0 3) j (nI k))) n t c) 5) x4 g u) :
    ∀ (d k : Nat) (g : FF), k + d = 5 → (∀ r, r ≠ 3 → r ≠ 12 → r ≠ 13 → g r = g0 r) → (∃ x, g 3 = upd (g0 3) j x) → Q_X5_ways_L22 (nI j) z K (d + 1) (bs (fun k => so5 (fu g0 3 (upd (g0 3) j (nI k))) n t c) k) (nI k) g u := by
  intro d
  induction d with
  | zero =>
    intro k g hk hg hx
    rw [Q_X5_ways_L22, show k = 5 by omega]
    exact ⟨fun _ => hK _ g hg hx, fun c => absurd (Int32.le_refl _) c⟩
  | succ d ih =>
    intro k g hk hg hx
    rw [Q_X5_ways_L22]
    refine ⟨fun c => absurd ((le_nI (a := 5) (by omega) (by omega)).mp c) (by omega), fun _ => ⟨vi_nI (by omega) (by omega), fun g1 eg1 => ?_⟩⟩
    obtain ⟨x, ex⟩ := hx
    have r1 : g1 3 = upd (g0 3) j (nI k) := by
      rw [eg1, fu_eq]; show upd _ (nI j).toNatClampNeg _ = _; rw [nI_clamp (by omega), ex, upd_upd]
    have rr : ∀ r, r ≠ 3 → r ≠ 12 → r ≠ 13 → g1 r = g0 r := fun r a b c => by rw [eg1, fu_ne a, hg r a b c]
    have hP1 : PI n t (sb g1 3) (sb u 2) := hP.rows2 (rr 4 (by decide) (by decide) (by decide)) (rr 5 (by decide) (by decide) (by decide)) rfl rfl
    have es : so5 g1 n t c = so5 (fu g0 3 (upd (g0 3) j (nI k))) n t c := so5_cong (fun r a b => by
      by_cases hr : r = 3
      · rw [hr, r1, fu_eq]
      · rw [fu_ne hr, rr r hr a b])
    refine q5_areSo hP1 hc h8 (fun g2 hs2 => ?_)
    have := ih (k + 1) g2 (by omega) (fun r a b c => by rw [hs2 r b c, rr r a b c]) ⟨nI k, by rw [hs2 3 (by decide) (by decide), r1]⟩
    rw [bs] at this
    rw [es]
    cases hb : so5 (fu g0 3 (upd (g0 3) j (nI k))) n t c with
    | false => exact ⟨fun _ x1 e1 x2 e2 => by rw [e1, e2, nI_1]; rw [hb, if_neg (by decide)] at this; exact this, fun c => absurd rfl c⟩
    | true => exact ⟨fun c => absurd c (by decide), fun _ x1 e1 x2 e2 => by rw [e1, e2, nI_1]; rw [hb, if_pos rfl] at this; exact this⟩
theorem q5_ways {p : Int32} {c : Nat} (hP : PI n t (sb g 3) (sb u 2)) (hc : c ≤ 8) (h8 : u 8 = nI c)
    (h1 : ∀ j, j < n → p = nI j → ∀ g', S123 g g' → posf (bs (fun k => so5 (fu g 3 (upd (g 3) j (nI k))) n t c) 5) g' u) (h0 : (∀ j, j < n → p ≠ nI j) → posf (-1) g u) : Q_X5_ways p g u posf := by
  have hn := hP.1
  have ht := hP.2.1
  unfold Q_X5_ways
  refine q5_isStep hP (fun j hj ej => ⟨fun _ => ?_, fun c => absurd c (by decide)⟩) (fun hne => ⟨fun c => absurd rfl c, fun _ => h0 hne⟩)
  subst ej
  refine ⟨vi_nI (by omega) (by omega), fun z ez => ⟨5 + 1, ?_⟩⟩
  rw [nI_clamp (by omega)] at ez
  refine q5_ways_loop (by omega) hP hc h8 (fun x4 g' hg hx => ⟨vi_nI (by omega) (by omega), fun g2 eg2 => h1 j hj rfl g2 (fun r a b => ?_)⟩) 5 0 g (by omega) (fun _ _ _ _ => rfl) ⟨g 3 j, (upd_id _ _).symm⟩
  by_cases hr : r = 3
  · obtain ⟨x, ex⟩ := hx
    rw [hr, eg2, fu_eq]; show upd _ (nI j).toNatClampNeg _ = _
    rw [nI_clamp (by omega), ex, upd_upd, ez, upd_id]
  · rw [eg2, fu_ne hr, hg r hr a b]
theorem q5_pl1 {x1 x2 x3 x4 x5 x6 : Int32} {K : Int32 → FF → VV → Prop} {g0 : FF} (hn : n ≤ 5) (e : u 2 = nI n)
    (hK : ∀ x g, (∀ k, k < n → g 3 k = g0 10 (3 * k) ∧ g 4 k = g0 10 (3 * k + 1) ∧ g 5 k = g0 10 (3 * k + 2)) → (∀ j, j < 3 ∨ 5 < j → g j = g0 j) → K x g u) :
    ∀ (d k : Nat) (g : FF), k + d = n → (∀ i, i < k → g 3 i = g0 10 (3 * i) ∧ g 4 i = g0 10 (3 * i + 1) ∧ g 5 i = g0 10 (3 * i + 2)) → (∀ j, j < 3 ∨ 5 < j → g j = g0 j) → Q_X5_program_L103 x1 x2 x3 x4 x5 x6 K (d + 1) (nI k) g u := by
  intro d
  induction d with
  | zero =>
    intro k g hk h1 h2
    rw [Q_X5_program_L103, e, show k = n by omega]
    exact ⟨fun _ => hK _ g (by rw [show n = k by omega]; exact h1) h2, fun c => absurd (Int32.le_refl _) c⟩
  | succ d ih =>
    intro k g hk h1 h2
    rw [Q_X5_program_L103, e, show (3 : Int32) * nI k = nI (3 * k) from pk_mul 3 k, nI_1, show nI (3 * k) + 2 = nI (3 * k + 2) from nI_add _ _, nI_clamp (n := 3 * k) (by omega), nI_clamp (n := 3 * k + 1) (by omega), nI_clamp (n := 3 * k + 2) (by omega)]
    have vk : vp_in (nI k) 5 := vi_nI (by omega) (by omega)
    refine ⟨fun c => absurd ((le_nI (by omega) (by omega)).mp c) (by omega), fun _ => ⟨vi_nI (by omega) (by omega), vk, fun g1 e1 => ⟨vi_nI (by omega) (by omega), vk, fun g2 e2 => ⟨vi_nI (by omega) (by omega), vk, fun g3 e3 x ex => ?_⟩⟩⟩⟩
    rw [ex, nI_1]
    have w : ∀ (f : Nat → Int32) (y : Int32), wr f (nI k) y = upd f k y := fun f y => by show upd f (nI k).toNatClampNeg y = _; rw [nI_clamp (by omega)]
    rw [w] at e1 e2 e3
    have a3 : g3 3 = upd (g 3) k (g 10 (3 * k)) := by rw [e3, fu_ne (by decide), e2, fu_ne (by decide), e1, fu_eq]
    have a4 : g3 4 = upd (g 4) k (g 10 (3 * k + 1)) := by rw [e3, fu_ne (by decide), e2, fu_eq, e1, fu_ne (by decide), fu_ne (by decide)]
    have a5 : g3 5 = upd (g 5) k (g 10 (3 * k + 2)) := by rw [e3, fu_eq, e2, fu_ne (by decide), fu_ne (by decide), e1, fu_ne (by decide), fu_ne (by decide)]
    have ao : ∀ j, j < 3 ∨ 5 < j → g3 j = g0 j := fun j hj => by rw [e3, fu_ne (by omega), e2, fu_ne (by omega), e1, fu_ne (by omega), h2 j hj]
    refine ih (k + 1) g3 (by omega) (fun i hi => ?_) ao
    rw [a3, a4, a5, h2 10 (by omega)]
    rcases Nat.lt_succ_iff_lt_or_eq.mp hi with hi | rfl
    · rw [upd_ne (by omega), upd_ne (by omega), upd_ne (by omega)]; exact h1 i hi
    · rw [upd_eq, upd_eq, upd_eq]; exact ⟨rfl, rfl, rfl⟩
theorem q5_pl2 {x1 x2 x3 x4 x5 x6 : Int32} {K : Int32 → FF → VV → Prop} {g0 : FF} (ht : t ≤ 7) (e : u 3 = nI t)
    (hK : ∀ x g, (∀ k, k < t → g 6 k = g0 11 (4 * k) ∧ g 7 k = g0 11 (4 * k + 1) ∧ g 8 k = g0 11 (4 * k + 2) ∧ g 9 k = g0 11 (4 * k + 3)) → (∀ j, j < 6 ∨ 9 < j → g j = g0 j) → K x g u) :
    ∀ (d k : Nat) (g : FF), k + d = t → (∀ i, i < k → g 6 i = g0 11 (4 * i) ∧ g 7 i = g0 11 (4 * i + 1) ∧ g 8 i = g0 11 (4 * i + 2) ∧ g 9 i = g0 11 (4 * i + 3)) → (∀ j, j < 6 ∨ 9 < j → g j = g0 j) → Q_X5_program_L173 x1 x2 x3 x4 x5 x6 K (d + 1) (nI k) g u := by
  intro d
  induction d with
  | zero =>
    intro k g hk h1 h2
    rw [Q_X5_program_L173, e, show k = t by omega]
    exact ⟨fun _ => hK _ g (by rw [show t = k by omega]; exact h1) h2, fun c => absurd (Int32.le_refl _) c⟩
  | succ d ih =>
    intro k g hk h1 h2
    rw [Q_X5_program_L173, e, show (4 : Int32) * nI k = nI (4 * k) from pk_mul 4 k, nI_1, show nI (4 * k) + 2 = nI (4 * k + 2) from nI_add _ _, show nI (4 * k) + 3 = nI (4 * k + 3) from nI_add _ _, nI_clamp (n := 4 * k) (by omega), nI_clamp (n := 4 * k + 1) (by omega), nI_clamp (n := 4 * k + 2) (by omega), nI_clamp (n := 4 * k + 3) (by omega)]
    have vk : vp_in (nI k) 7 := vi_nI (by omega) (by omega)
    refine ⟨fun c => absurd ((le_nI (by omega) (by omega)).mp c) (by omega), fun _ => ⟨vi_nI (by omega) (by omega), vk, fun g1 e1 => ⟨vi_nI (by omega) (by omega), vk, fun g2 e2 => ⟨vi_nI (by omega) (by omega), vk, fun g3 e3 => ⟨vi_nI (by omega) (by omega), vk, fun g4 e4 x ex => ?_⟩⟩⟩⟩⟩
    rw [ex, nI_1]
    have w : ∀ (f : Nat → Int32) (y : Int32), wr f (nI k) y = upd f k y := fun f y => by show upd f (nI k).toNatClampNeg y = _; rw [nI_clamp (by omega)]
    rw [w] at e1 e2 e3 e4
    have a6 : g4 6 = upd (g 6) k (g 11 (4 * k)) := by rw [e4, fu_ne (by decide), e3, fu_ne (by decide), e2, fu_ne (by decide), e1, fu_eq]
    have a7 : g4 7 = upd (g 7) k (g 11 (4 * k + 1)) := by rw [e4, fu_ne (by decide), e3, fu_ne (by decide), e2, fu_eq, e1, fu_ne (by decide), fu_ne (by decide)]
    have a8 : g4 8 = upd (g 8) k (g 11 (4 * k + 2)) := by rw [e4, fu_ne (by decide), e3, fu_eq, e2, fu_ne (by decide), fu_ne (by decide), e1, fu_ne (by decide), fu_ne (by decide)]
    have a9 : g4 9 = upd (g 9) k (g 11 (4 * k + 3)) := by rw [e4, fu_eq, e3, fu_ne (by decide), fu_ne (by decide), e2, fu_ne (by decide), fu_ne (by decide), e1, fu_ne (by decide), fu_ne (by decide)]
    have ao : ∀ j, j < 6 ∨ 9 < j → g4 j = g0 j := fun j hj => by rw [e4, fu_ne (by omega), e3, fu_ne (by omega), e2, fu_ne (by omega), e1, fu_ne (by omega), h2 j hj]
    refine ih (k + 1) g4 (by omega) (fun i hi => ?_) ao
    rw [a6, a7, a8, a9, h2 11 (by omega)]
    rcases Nat.lt_succ_iff_lt_or_eq.mp hi with hi | rfl
    · rw [upd_ne (by omega), upd_ne (by omega), upd_ne (by omega), upd_ne (by omega)]; exact h1 i hi
    · rw [upd_eq, upd_eq, upd_eq, upd_eq]; exact ⟨rfl, rfl, rfl, rfl⟩
end K5
