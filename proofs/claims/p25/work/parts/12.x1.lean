/-! ===== Program ===== -/
theorem nI_rng {p : Int32} {n : Nat} (hn : n < 2 ^ 31) (h0 : ¬ p < 0) (h1 : ¬ nI n ≤ p) : ∃ j, j < n ∧ p = nI j := by
  rcases pk_ix p hn with h | h | h
  · exact absurd h h0
  · exact absurd h h1
  · exact h
theorem nI_neg {k : Nat} (hk : k < 2 ^ 31) : ¬ nI k < 0 := nI_pos hk
theorem nI_ge_ne {p : Int32} {n : Nat} (hn : n < 2 ^ 31) (h : nI n ≤ p) : ∀ k, k < n → p ≠ nI k := by
  intro k hk e
  rw [e, le_nI hn (by omega)] at h
  omega
theorem nI_lt_ne {p : Int32} (h : p < 0) : ∀ k, k < 2 ^ 31 → p ≠ nI k := by
  intro k hk e
  rw [e] at h
  exact nI_pos hk h
theorem nI_div {a d : Nat} (ha : a < 2 ^ 31) (h0 : 0 < d) (hd : d < 2 ^ 31) : nI a / nI d = nI (a / d) := pk_div ha h0 hd
theorem nI_mod {a d : Nat} (ha : a < 2 ^ 31) (h0 : 0 < d) (hd : d < 2 ^ 31) : nI a - nI a / nI d * nI d = nI (a % d) := pk_rem ha h0 hd
theorem i4 : (4 : Int32) = nI 4 := rfl
theorem i10 : (10 : Int32) = nI 10 := rfl
theorem i1 : (1 : Int32) = nI 1 := rfl
theorem i0 : (0 : Int32) = nI 0 := rfl
theorem i100 : (100 : Int32) = nI 100 := rfl
section PX
variable {n t : Nat} {f : FF} {v : VV} {post : Int32 → Prop} {posf : Int32 → FF → VV → Prop}
theorem q_hasStep {p : Int32} (hP : PI n t f v) (h1 : ∀ k, k < n → p = nI k → post 1) (h0 : (∀ k, k < n → p ≠ nI k) → post 0) : Q_X1_hasStep p f v post := by
  have hn := hP.1
  unfold Q_X1_hasStep
  rw [hP.2.2.1]
  refine ⟨fun c => h0 (fun k hk => nI_lt_ne c k (by omega)), fun c => ⟨fun c2 => h0 (nI_ge_ne (by omega) c2), fun c2 => ?_⟩⟩
  obtain ⟨j, hj, e⟩ := nI_rng (by omega) c c2
  exact h1 j hj e
theorem q_hasTest {p : Int32} (hP : PI n t f v) (h1 : ∀ k, k < t → p = nI k → post 1) (h0 : (∀ k, k < t → p ≠ nI k) → post 0) : Q_X1_hasTest p f v post := by
  have ht := hP.2.1
  unfold Q_X1_hasTest
  rw [hP.2.2.2.1]
  refine ⟨fun c => h0 (fun k hk => nI_lt_ne c k (by omega)), fun c => ⟨fun c2 => h0 (nI_ge_ne (by omega) c2), fun c2 => ?_⟩⟩
  obtain ⟨j, hj, e⟩ := nI_rng (by omega) c c2
  exact h1 j hj e
theorem q_mutants (hP : PI n t f v) (h : post (nI (4 * n))) : Q_X1_mutants f v post := by
  unfold Q_X1_mutants
  rw [hP.2.2.1, i4, pk_mul]
  exact h
theorem q_hasMutant {p : Int32} (hP : PI n t f v) (h1 : ∀ k, k < 4 * n → p = nI k → post 1) (h0 : (∀ k, k < 4 * n → p ≠ nI k) → post 0) : Q_X1_hasMutant p f v post := by
  have hn := hP.1
  unfold Q_X1_hasMutant
  refine ⟨fun c => h0 (fun k hk => nI_lt_ne c k (by omega)), fun c => q_mutants hP ⟨fun c2 => h0 (nI_ge_ne (by omega) c2), fun c2 => ?_⟩⟩
  obtain ⟨j, hj, e⟩ := nI_rng (by omega) c c2
  exact h1 j hj e
theorem q_isEmpty (hP : PI n t f v) (h1 : n = 0 → post 1) (h0 : n ≠ 0 → post 0) : Q_X1_isEmpty f v post := by
  have hn := hP.1
  unfold Q_X1_isEmpty
  rw [hP.2.2.1]
  refine ⟨fun c => h0 (fun e => c (by rw [e]; rfl)), fun c => h1 ?_⟩
  rw [i0, nI_eq (by omega) (by omega)] at c
  exact c
theorem q_allMutants (hP : PI n t f v) (h : post ((1 : Int32) <<< (nI (4 * n) &&& 31) - 1)) : Q_X1_allMutants f v post := by
  unfold Q_X1_allMutants
  exact q_mutants hP h
theorem q_stepOf {q : Nat} (hq : q < 2 ^ 31) (h : post (nI (q / 4))) : Q_X1_stepOf (nI q) f v post := by
  unfold Q_X1_stepOf
  rw [i4, nI_div hq (by omega) (by omega)]
  exact h
theorem q_otherWay {q : Nat} (hP : PI n t f v) (hq : q < 4 * n) (h : post (ow (f 0 (q / 4)) (q % 4))) : Q_X1_otherWay (nI q) f v post := by
  have hn := hP.1
  unfold Q_X1_otherWay
  intro x e
  rw [i4, nI_mod (by omega) (by omega) (by omega)] at e
  rw [i4, nI_div (by omega) (by omega) (by omega), nI_clamp (by omega), e]
  unfold ow at h
  refine ⟨vi_nI (by omega) (by omega), fun c => ?_, fun c => ?_⟩
  · rw [if_pos c] at h; exact h
  · rw [if_neg c] at h; exact h
def wgt (k t : Int32) : Int32 := if k = 0 then t else if k = 1 then t + 1 else 2 * t
theorem q_weight {j : Nat} (hP : PI n t f v) (hj : j < t) (h : post (wgt (f 3 j) (f 4 j))) : Q_X1_weight (nI j) f v post := by
  have ht := hP.2.1
  unfold Q_X1_weight
  rw [nI_clamp (by omega)]
  unfold wgt at h
  have hi : vp_in (nI j) 7 := vi_nI (by omega) (by omega)
  refine ⟨hi, ?_⟩
  refine ⟨fun c => ⟨hi, ?_⟩, fun c => ⟨fun c2 => ⟨hi, ?_⟩, fun c2 => ⟨hi, ?_⟩⟩⟩
  · rw [if_pos c] at h; exact h
  · rw [if_neg c, if_pos c2] at h; exact h
  · rw [if_neg c, if_neg c2] at h; exact h
/-- what a mutant's own step makes -/
def mval (w a b : Nat → Int32) (n : Nat) (x y : Int32) (q : Nat) : Int32 := mk (ow (w (q / 4)) (q % 4)) (tab w a b x y n (a (q / 4)).toNatClampNeg) (tab w a b x y n (b (q / 4)).toNatClampNeg)
def eff (w a b : Nat → Int32) (n : Nat) (x y : Int32) (q : Nat) : Int32 := if mval w a b n x y q = tab w a b x y n (q / 4) then 0 else if kill w a b n x y q = true then 2 else 1
theorem mw_lt {w : Nat → Int32} {q k : Nat} (h : k < q / 4) : mw w q k = w k := fu_ne (by omega)
theorem mw_at {w : Nat → Int32} {q : Nat} : mw w q (q / 4) = ow (w (q / 4)) (q % 4) := fu_eq _ _ _
theorem mw_ne {w : Nat → Int32} {q k : Nat} (h : k ≠ q / 4) : mw w q k = w k := fu_ne h
theorem q_eff_loop {q : Nat} {x y : Int32} {K : Int32 → Int32 → Int32 → FF → VV → Prop} {f0 : FF} {z1 z2 : Int32} (hP : PI n t f0 v) (hF : FG n x y f0)
    (hK : ∀ (x5 : Int32) (f : FF), (∀ j, j ≠ 8 → f j = f0 j) → K (out (mw (f0 0) q) (f0 1) (f0 2) x y n) (out (f0 0) (f0 1) (f0 2) x y n) x5 f v) :
    ∀ (d k : Nat) (x3 x4 : Int32) (f : FF), k + d = n → q / 4 < k → (∀ j, j ≠ 8 → f j = f0 j) → (∀ j, here k j → f 8 j = tab (mw (f0 0) q) (f0 1) (f0 2) x y k j) → x3 = tab (mw (f0 0) q) (f0 1) (f0 2) x y k (k - 1) → x4 = tab (f0 0) (f0 1) (f0 2) x y k (k - 1) → Q_X1_effect_L84 z1 z2 K (d + 1) x3 x4 (nI k) f v := by
  obtain ⟨hn, ht, e0, e1, hok⟩ := hP
  intro d
  induction d with
  | zero =>
    intro k x3 x4 f hk hqk hf h8 h3 h4
    rw [Q_X1_effect_L84]
    have hk : k = n := by omega
    subst hk
    refine ⟨fun c => ?_, fun c => absurd (by rw [e0]; exact Int32.le_refl _) c⟩
    have := hK (nI k) f hf
    unfold out at this
    rw [if_neg (by omega), if_neg (by omega), ← h3, ← h4] at this
    exact this
  | succ d ih =>
    intro k x3 x4 f hk hqk hf h8 h3 h4
    rw [Q_X1_effect_L84]
    have hkn : k < n := by omega
    have c4 : (nI k).toNatClampNeg = k := nI_clamp (by omega)
    refine ⟨fun c => ?_, fun c => ?_⟩
    · rw [e0, le_nI (by omega) (by omega)] at c
      omega
    · rw [c4, hf 1 (by decide), hf 2 (by decide), hf 0 (by decide)]
      obtain ⟨o1, o2⟩ := hok k hkn
      refine ⟨vi_nI (by omega) (by omega), vi_nI (by omega) (by omega), o1.in7 (by omega), vi_nI (by omega) (by omega), o2.in7 (by omega), q_make ?_⟩
      refine ⟨vi_nI (by omega) (by omega), fun f' ef => ⟨vi_nI (by omega) (by omega), fun x' ex y' ey => ?_⟩⟩
      rw [ey, nI_1]
      rw [h8 _ (o1.here (by omega)), h8 _ (o2.here (by omega))] at ef ⊢
      refine ih (k + 1) _ _ f' (by omega) (by omega) ?_ ?_ ?_ ?_
      · intro j hj
        rw [ef, fu_ne hj]
        exact hf j hj
      · intro j hj
        rw [ef, fu_eq]
        show upd (f 8) (nI k).toNatClampNeg _ j = (if j = k then _ else _)
        rw [c4]
        by_cases hjk : j = k
        · rw [if_pos hjk, hjk, upd_eq, mw_ne (by omega)]
        · rw [if_neg hjk, upd_ne hjk]
          exact h8 j (by unfold here at hj ⊢; omega)
      · show _ = (if k + 1 - 1 = k then _ else _)
        rw [if_pos (by omega), mw_ne (by omega)]
      · rw [ex, ef, fu_ne (by decide), hf 7 (by decide)]
        show f0 7 k = _
        rw [hF k (by unfold here; omega)]
        exact tab_in (by omega) (by omega) k (by unfold here; omega)
theorem tab_mw {w a b : Nat → Int32} {x y : Int32} {q : Nat} : tab (mw w q) a b x y (q / 4) = tab w a b x y (q / 4) := tab_cong (fun k hk => mw_lt hk)
/-- a step that makes the same leaves all the same -/
theorem tab_same {w a b : Nat → Int32} {x y : Int32} {q n : Nat} (hn : n ≤ 5) (hq : q / 4 < n) (hok : ∀ k, k < n → okSrc (a k) k ∧ okSrc (b k) k) (he : mval w a b n x y q = tab w a b x y n (q / 4)) : ∀ m, m ≤ n → ∀ j, tab (mw w q) a b x y m j = tab w a b x y m j := by
  intro m
  induction m with
  | zero => intro _ _; rfl
  | succ m ih =>
    intro hm j
    have ih := ih (by omega)
    show (if j = m then mk (mw w q m) _ _ else tab (mw w q) a b x y m j) = (if j = m then mk (w m) _ _ else tab w a b x y m j)
    by_cases hjm : j = m
    · rw [if_pos hjm, if_pos hjm, ih, ih]
      by_cases hmq : m = q / 4
      · subst hmq
        rw [mw_at]
        have e1 : tab w a b x y n (q / 4) = tab w a b x y (q / 4 + 1) (q / 4) := tab_in (by omega) hn _ (by unfold here; omega)
        have e2 : tab w a b x y (q / 4 + 1) (q / 4) = mk (w (q / 4)) (tab w a b x y (q / 4) (a (q / 4)).toNatClampNeg) (tab w a b x y (q / 4) (b (q / 4)).toNatClampNeg) := if_pos rfl
        rw [← e2, ← e1, ← he]
        unfold mval
        rw [tab_in (k := q / 4) (m := n) (by omega) hn _ ((hok _ hq).1.here (by omega)), tab_in (k := q / 4) (m := n) (by omega) hn _ ((hok _ hq).2.here (by omega))]
      · rw [mw_ne hmq]
    · rw [if_neg hjm, if_neg hjm, ih]
theorem eff_2 {w a b : Nat → Int32} {x y : Int32} {q n : Nat} (hn : n ≤ 5) (hq : q < 4 * n) (hok : ∀ k, k < n → okSrc (a k) k ∧ okSrc (b k) k) : eff w a b n x y q = 2 ↔ kill w a b n x y q = true := by
  unfold eff
  by_cases h : mval w a b n x y q = tab w a b x y n (q / 4)
  · rw [if_pos h]
    have hs := tab_same hn (by omega) hok h n (Nat.le_refl n)
    have : kill w a b n x y q = false := by
      unfold kill out
      rw [if_neg (by omega), if_neg (by omega), hs]
      simp
    rw [this]
    simp
  · rw [if_neg h]
    by_cases h2 : kill w a b n x y q = true
    · rw [if_pos h2]; simp [h2]
    · rw [if_neg h2]; simp [h2]
theorem q_effect {q : Nat} {x y : Int32} (hP : PI n t f v) (hF : FG n x y f) (hq : q < 4 * n) (h : ∀ f' : FF, (∀ j, j ≠ 8 → f' j = f j) → posf (eff (f 0) (f 1) (f 2) n x y q) f' v) : Q_X1_effect (nI q) f v posf := by
  have hP0 := hP
  obtain ⟨hn, ht, e0, e1, hok⟩ := hP
  obtain ⟨o1, o2⟩ := hok (q / 4) (by omega)
  have c4 : (nI (q / 4)).toNatClampNeg = q / 4 := nI_clamp (by omega)
  have hv5 : vp_in (nI (q / 4)) 5 := vi_nI (by omega) (by omega)
  have hv7 : vp_in (nI (q / 4)) 7 := vi_nI (by omega) (by omega)
  have up1 : ∀ j, here (q / 4) j → here n j := fun j hj => by unfold here at hj ⊢; omega
  have F1 := hF _ (up1 _ (o1.here (by omega)))
  have F2 := hF _ (up1 _ (o2.here (by omega)))
  have F3 := hF (q / 4) (by unfold here; omega)
  unfold Q_X1_effect
  refine q_stepOf (by omega) (q_otherWay hP0 hq ?_)
  rw [c4]
  refine ⟨hv5, o1.in7 (by omega), hv5, o2.in7 (by omega), q_make ⟨hv7, fun c => ?_, fun c => ?_⟩⟩
  · refine ⟨by decide, by decide, by decide, by decide, by decide, fun f1 ef1 => ⟨hv7, fun f2 ef2 => ⟨hv7, fun x1 ex1 x2 ex2 => ?_⟩⟩⟩
    rw [ex2, nI_1]
    refine ⟨n - (q / 4 + 1) + 1, ?_⟩
    rw [F1, F2, F3] at c
    have g1 : ∀ j, j ≠ 8 → f2 j = f j := fun j hj => by rw [ef2, fu_ne hj, ef1, fu_ne hj]
    refine q_eff_loop (q := q) (x := x) (y := y) hP0 hF (fun x5 f' hf' => ?_) (n - (q / 4 + 1)) (q / 4 + 1) _ _ f2 (by omega) (by omega) g1 ?_ ?_ ?_
    · have := h f' hf'
      unfold eff at this
      rw [if_neg (by unfold mval; exact c)] at this
      refine ⟨fun c2 => ?_, fun c2 => ?_⟩
      · rw [if_pos (by unfold kill; exact decide_eq_true c2)] at this
        exact this
      · rw [if_neg (by unfold kill; simp [c2])] at this
        exact this
    · intro j hj
      rw [ef2, fu_eq, ef1, fu_eq]
      show upd _ (nI (q / 4)).toNatClampNeg _ j = _
      rw [c4]
      show upd _ (q / 4) _ j = (if j = q / 4 then _ else _)
      by_cases hjq : j = q / 4
      · rw [if_pos hjq, hjq, upd_eq, F1, F2, mw_at, tab_mw, tab_in (k := q / 4) (m := n) (by omega) hn _ (o1.here (by omega)), tab_in (k := q / 4) (m := n) (by omega) hn _ (o2.here (by omega))]
      · have hj2 : here (q / 4) j := by unfold here at hj ⊢; omega
        rw [if_neg hjq, upd_ne hjq, tab_mw]
        show va_cpy (f 7) (f 8) 0 0 7 j = _
        rw [sb_cpy0 (by unfold here at hj2; omega), hF j (up1 j hj2)]
        exact tab_in (by omega) hn j hj2
    · show _ = (if q / 4 + 1 - 1 = q / 4 then _ else _)
      rw [if_pos (by omega), F1, F2, mw_at, tab_mw, tab_in (k := q / 4) (m := n) (by omega) hn _ (o1.here (by omega)), tab_in (k := q / 4) (m := n) (by omega) hn _ (o2.here (by omega))]
    · rw [ex1, g1 7 (by decide), F3]
      exact tab_in (by omega) hn (q / 4) (by unfold here; omega)
  · have := h f (fun _ _ => rfl)
    unfold eff mval at this
    rw [F1, F2, F3] at c
    rw [if_pos c] at this
    exact this
end PX
