/-! ===== the reference: runs and kills; its program's rows are sb g 3, its numbers sb u 2 ===== -/
def wv (x3 x4 : Int32) (w : Nat → Int32) : Nat → Int32 := fun k => if nI k = x3 then x4 else w k
/-- all rows but made stay -/
def S12 (g g' : FF) : Prop := ∀ j, j ≠ 12 → g' j = g j
theorem S12.rf {g : FF} : S12 g g := fun _ _ => rfl
theorem S12.tr {f g h : FF} (h1 : S12 f g) (h2 : S12 g h) : S12 f h := fun j a => (h2 j a).trans (h1 j a)
theorem S12.pv {g g' : FF} (h : S12 g g') : ∀ j, j < 7 → sb g' 3 j = sb g 3 j := fun j hj => h (3 + j) (by omega)
theorem PI.rows {n t : Nat} {f f' : FF} {v v' : VV} (h : PI n t f v) (hs : ∀ j, j < 3 → f' j = f j) (h0 : v' 0 = v 0) (h1 : v' 1 = v 1) : PI n t f' v' := by
  obtain ⟨a1, a2, a3, a4, a5⟩ := h
  refine ⟨a1, a2, h0.trans a3, h1.trans a4, fun k hk => ?_⟩
  rw [hs 1 (by decide), hs 2 (by decide)]
  exact a5 k hk
theorem kt_rows {f f' : FF} (hs : ∀ j, j < 7 → f' j = f j) (n j q : Nat) : kt' f' n j q = kt' f n j q := by
  unfold kt'
  rw [hs 0 (by decide), hs 1 (by decide), hs 2 (by decide), hs 5 (by decide), hs 6 (by decide)]
theorem cntK_rows {f f' : FF} (hs : ∀ j, j < 7 → f' j = f j) (n q : Nat) : ∀ k, cntK f' n q k = cntK f n q k
  | 0 => rfl
  | k + 1 => by
    rw [cntK, cntK, cntK_rows hs n q k, hs 0 (by decide), hs 1 (by decide), hs 2 (by decide)]
theorem q5_makes {w a b : Int32} {post : Int32 → Prop} (h : post (mk w a b)) : Q_X5_makes w a b post := by
  unfold Q_X5_makes
  unfold mk at h
  refine ⟨fun c => ?_, fun c => ⟨fun c1 => ⟨fun c2 => ?_, fun c2 => ?_⟩, fun c1 => ⟨fun c2 => ?_, fun c2 => ⟨fun c3 => ⟨fun c4 => ?_, fun c4 => ?_⟩, fun c3 => ⟨fun c4 => ?_, fun c4 => ?_⟩⟩⟩⟩⟩ <;> simp_all
theorem q5_sourceOf {z x y : Int32} {k : Nat} {w a b : Nat → Int32} {g : FF} {u : VV} {post : Int32 → Prop} (hk : k ≤ 5) (hz : okSrc z k) (hm : ∀ j, j < k → g 12 j = tab w a b x y k j) (h : post (tab w a b x y k z.toNatClampNeg)) : Q_X5_sourceOf z x y g u post := by
  obtain ⟨j, rfl, hj⟩ := hz
  have c : (nI j).toNatClampNeg = j := nI_clamp (by omega)
  have t5 : tab w a b x y k 5 = x := tab_in (k := 0) (Nat.zero_le k) hk 5 (by unfold here; omega)
  have t6 : tab w a b x y k 6 = y := tab_in (k := 0) (Nat.zero_le k) hk 6 (by unfold here; omega)
  rw [c] at h
  unfold Q_X5_sourceOf
  refine ⟨fun c5 => ⟨fun c6 => ?_, fun c6 => ?_⟩, fun c5 => ?_⟩
  · have hj2 : j < k := by
      rcases hj with h1 | h1 | h1
      · exact h1
      · exact absurd (by rw [h1]; rfl) c5
      · exact absurd (by rw [h1]; rfl) c6
    rw [c, hm j hj2]
    exact ⟨vi_nI (by omega) (by omega), h⟩
  · rw [show (6 : Int32) = nI 6 from rfl, nI_eq (by omega) (by omega)] at c6
    rw [c6, t6] at h; exact h
  · rw [show (5 : Int32) = nI 5 from rfl, nI_eq (by omega) (by omega)] at c5
    rw [c5, t5] at h; exact h
section R5
variable {n t : Nat} {g : FF} {u : VV} {posf : Int32 → FF → VV → Prop} {post : Int32 → Prop}
theorem q5_runs_loop {x y x3 x4 : Int32} {K : Int32 → FF → VV → Prop} {g0 : FF} (hP : PI n t (sb g0 3) (sb u 2))
    (hK : ∀ x5 g, S12 g0 g → (∀ j, j < n → g 12 j = tab (wv x3 x4 (g0 3)) (g0 4) (g0 5) x y n j) → K x5 g u) :
    ∀ (d k : Nat) (g : FF), k + d = n → S12 g0 g → (∀ j, j < k → g 12 j = tab (wv x3 x4 (g0 3)) (g0 4) (g0 5) x y k j) → Q_X5_runs_L3 x y x3 x4 K (d + 1) (nI k) g u := by
  obtain ⟨hn, ht, e0, e1, hok⟩ := hP
  have e0 : u 2 = nI n := e0
  intro d
  induction d with
  | zero =>
    intro k g hk hs hm
    rw [Q_X5_runs_L3, e0]
    have : k = n := by omega
    subst this
    exact ⟨fun _ => hK _ g hs hm, fun c => absurd (Int32.le_refl _) c⟩
  | succ d ih =>
    intro k g hk hs hm
    rw [Q_X5_runs_L3, e0]
    have ck : (nI k).toNatClampNeg = k := nI_clamp (by omega)
    have vk : vp_in (nI k) 5 := vi_nI (by omega) (by omega)
    obtain ⟨o1, o2⟩ := hok k (by omega)
    have o1 : okSrc (g0 4 k) k := o1
    have o2 : okSrc (g0 5 k) k := o2
    have fin : ∀ (r : Int32) (f' : FF), r = mk (wv x3 x4 (g0 3) k) (tab (wv x3 x4 (g0 3)) (g0 4) (g0 5) x y k (g0 4 k).toNatClampNeg) (tab (wv x3 x4 (g0 3)) (g0 4) (g0 5) x y k (g0 5 k).toNatClampNeg) → f' = fu g 12 (wr (g 12) (nI k) r) → Q_X5_runs_L3 x y x3 x4 K (d + 1) (nI (k + 1)) f' u := by
      intro r f' hr ef
      refine ih (k + 1) f' (by omega) (fun j hj => by rw [ef, fu_ne hj]; exact hs j hj) (fun j hj => ?_)
      rw [ef, fu_eq]
      show upd (g 12) (nI k).toNatClampNeg r j = (if j = k then _ else _)
      rw [ck]
      by_cases hjk : j = k
      · rw [if_pos hjk, hjk, upd_eq, hr]
      · rw [if_neg hjk, upd_ne hjk]; exact hm j (by omega)
    rw [ck, hs 4 (by decide), hs 5 (by decide), hs 3 (by decide)]
    refine ⟨fun c => absurd ((le_nI (by omega) (by omega)).mp c) (by omega), fun _ => ⟨fun c => ⟨vk, vk, q5_sourceOf (by omega) o1 hm ⟨vk, q5_sourceOf (by omega) o2 hm (q5_makes ⟨vk, fun f' ef x' ex => ?_⟩)⟩⟩, fun c => ⟨vk, q5_sourceOf (by omega) o1 hm ⟨vk, q5_sourceOf (by omega) o2 hm (q5_makes ⟨vk, fun f' ef x' ex => ?_⟩)⟩⟩⟩⟩
    · rw [ex, nI_1]
      exact fin _ f' (by unfold wv; rw [if_neg c]) ef
    · rw [ex, nI_1]
      exact fin _ f' (by unfold wv; rw [if_pos c]) ef
theorem q5_runs {x y x3 x4 : Int32} (hP : PI n t (sb g 3) (sb u 2)) (h0 : 0 < n)
    (h : ∀ g', S12 g g' → (∀ j, j < n → g' 12 j = tab (wv x3 x4 (g 3)) (g 4) (g 5) x y n j) → posf (tab (wv x3 x4 (g 3)) (g 4) (g 5) x y n (n - 1)) g' u) : Q_X5_runs x y x3 x4 g u posf := by
  have hn := hP.1
  have e0 : u 2 = nI n := hP.2.2.1
  unfold Q_X5_runs
  refine ⟨n + 1, q5_runs_loop hP (fun x5 g' hs hm => ?_) n 0 g (by omega) S12.rf (fun j hj => by omega)⟩
  have e : u 2 - 1 = nI (n - 1) := by rw [e0]; exact pk_sub (a := n) (b := 1) (by omega)
  rw [e, nI_clamp (by omega), hm (n - 1) (by omega)]
  exact ⟨vi_nI (by omega) (by omega), h g' hs hm⟩
theorem wv_plain {w : Nat → Int32} {k : Nat} (hk : k < 5) : wv (-9) 0 w k = w k := if_neg ((by decide : ∀ k, k < 5 → ¬ nI k = -9) k hk)
theorem q5_plainRun {x y : Int32} (hP : PI n t (sb g 3) (sb u 2)) (h0 : 0 < n)
    (h : ∀ g', S12 g g' → (∀ j, j < n → g' 12 j = tab (g 3) (g 4) (g 5) x y n j) → posf (out (g 3) (g 4) (g 5) x y n) g' u) : Q_X5_plainRun x y g u posf := by
  have hn := hP.1
  have e : tab (wv (-9) 0 (g 3)) (g 4) (g 5) x y n = tab (g 3) (g 4) (g 5) x y n := tab_cong (fun k hk => wv_plain (by omega))
  unfold Q_X5_plainRun
  refine q5_runs hP h0 (fun g' hs hm => ?_)
  rw [e] at hm ⊢
  have := h g' hs hm
  unfold out at this
  rw [if_neg (by omega)] at this
  exact this
theorem q5_stepOf {q : Nat} (hq : q < 2 ^ 31) (h : post (nI (q / 4))) : Q_X5_stepOf (nI q) post := by
  unfold Q_X5_stepOf
  rw [i4, nI_div hq (by omega) (by omega)]
  exact h
theorem q5_otherWay {q : Nat} (hP : PI n t (sb g 3) (sb u 2)) (hq : q < 4 * n) (h : post (ow (g 3 (q / 4)) (q % 4))) : Q_X5_otherWay (nI q) g u post := by
  have hn := hP.1
  unfold Q_X5_otherWay
  refine q5_stepOf (by omega) ?_
  rw [i4, nI_mod (by omega) (by omega) (by omega), nI_clamp (by omega)]
  unfold ow at h
  refine ⟨vi_nI (by omega) (by omega), fun c => ?_, fun c => ?_⟩
  · rw [if_pos c] at h; exact h
  · rw [if_neg c] at h; exact h
theorem wv_mw {w : Nat → Int32} {q k : Nat} (hk : k < 2 ^ 31) (hq : q < 2 ^ 31) : wv (nI (q / 4)) (ow (w (q / 4)) (q % 4)) w k = mw w q k := by
  unfold wv mw fu
  by_cases h : k = q / 4
  · rw [if_pos (by rw [h]), if_pos h]
  · rw [if_neg (fun e => h ((nI_eq hk (by omega)).mp e)), if_neg h]
theorem q5_mutantRun {q : Nat} {x y : Int32} (hP : PI n t (sb g 3) (sb u 2)) (hq : q < 4 * n)
    (h : ∀ g', S12 g g' → (∀ j, j < n → g' 12 j = tab (mw (g 3) q) (g 4) (g 5) x y n j) → posf (out (mw (g 3) q) (g 4) (g 5) x y n) g' u) : Q_X5_mutantRun (nI q) x y g u posf := by
  have hn := hP.1
  unfold Q_X5_mutantRun
  refine q5_stepOf (by omega) (q5_otherWay hP hq (q5_runs hP (by omega) (fun g' hs hm => ?_)))
  have e : tab (wv (nI (q / 4)) (ow (g 3 (q / 4)) (q % 4)) (g 3)) (g 4) (g 5) x y n = tab (mw (g 3) q) (g 4) (g 5) x y n := tab_cong (fun k hk => wv_mw (by omega) (by omega))
  rw [e] at hm ⊢
  have := h g' hs hm
  unfold out at this
  rw [if_neg (by omega)] at this
  exact this
theorem PI.s12 (hP : PI n t (sb g 3) (sb u 2)) {g' : FF} (hs : S12 g g') : PI n t (sb g' 3) (sb u 2) := hP.rows (fun j hj => hs.pv j (by omega)) rfl rfl
theorem q5_kills {j q : Nat} (hP : PI n t (sb g 3) (sb u 2)) (hj : j < t) (hq : q < 4 * n) (h1 : kt' (sb g 3) n j q = true → ∀ g', S12 g g' → posf 1 g' u) (h0 : kt' (sb g 3) n j q = false → ∀ g', S12 g g' → posf 0 g' u) : Q_X5_kills (nI j) (nI q) g u posf := by
  have ht := hP.2.1
  have vj : vp_in (nI j) 7 := vi_nI (by omega) (by omega)
  have cj : (nI j).toNatClampNeg = j := nI_clamp (by omega)
  unfold Q_X5_kills
  rw [cj]
  refine ⟨vj, vj, q5_plainRun hP (by omega) (fun g1 s1 m1 => ⟨vj, vj, ?_⟩)⟩
  refine q5_mutantRun (hP.s12 s1) hq (fun g2 s2 m2 => ?_)
  rw [s1 3 (by decide), s1 4 (by decide), s1 5 (by decide), s1 8 (by decide), s1 9 (by decide)]
  have ek : kt' (sb g 3) n j q = decide (¬ out (mw (g 3) q) (g 4) (g 5) (g 8 j) (g 9 j) n = out (g 3) (g 4) (g 5) (g 8 j) (g 9 j) n) := rfl
  refine ⟨fun c => h0 (by rw [ek, decide_eq_false (not_not_intro c.symm)]) g2 (s1.tr s2), fun c => h1 (by rw [ek]; exact decide_eq_true (fun z => c z.symm)) g2 (s1.tr s2)⟩
theorem q5_infects {j q : Nat} (hP : PI n t (sb g 3) (sb u 2)) (hj : j < t) (hq : q < 4 * n) (h1 : ¬ mval (g 3) (g 4) (g 5) n (g 8 j) (g 9 j) q = tab (g 3) (g 4) (g 5) (g 8 j) (g 9 j) n (q / 4) → ∀ g', S12 g g' → posf 1 g' u) (h0 : mval (g 3) (g 4) (g 5) n (g 8 j) (g 9 j) q = tab (g 3) (g 4) (g 5) (g 8 j) (g 9 j) n (q / 4) → ∀ g', S12 g g' → posf 0 g' u) : Q_X5_infects (nI j) (nI q) g u posf := by
  have hn := hP.1
  have ht := hP.2.1
  have hok : ∀ k, k < n → okSrc (g 4 k) k ∧ okSrc (g 5 k) k := hP.2.2.2.2
  have vj : vp_in (nI j) 7 := vi_nI (by omega) (by omega)
  have cj : (nI j).toNatClampNeg = j := nI_clamp (by omega)
  have vq : vp_in (nI (q / 4)) 5 := vi_nI (by omega) (by omega)
  have cq : (nI (q / 4)).toNatClampNeg = q / 4 := nI_clamp (by omega)
  unfold Q_X5_infects
  rw [cj]
  refine ⟨vj, vj, q5_plainRun hP (by omega) (fun g1 s1 m1 => q5_stepOf (by omega) ⟨vq, fun x ex => ⟨vj, vj, q5_mutantRun (hP.s12 s1) hq (fun g2 s2 m2 => q5_stepOf (by omega) ⟨vq, ?_⟩)⟩⟩)⟩
  rw [s1 3 (by decide), s1 4 (by decide), s1 5 (by decide), s1 8 (by decide), s1 9 (by decide)] at m2
  rw [cq, m1 _ (by omega)] at ex
  rw [cq, m2 _ (by omega), ex]
  have e : tab (mw (g 3) q) (g 4) (g 5) (g 8 j) (g 9 j) n (q / 4) = mval (g 3) (g 4) (g 5) n (g 8 j) (g 9 j) q := by
    obtain ⟨o1, o2⟩ := hok (q / 4) (by omega)
    have e1 : tab (mw (g 3) q) (g 4) (g 5) (g 8 j) (g 9 j) n (q / 4) = tab (mw (g 3) q) (g 4) (g 5) (g 8 j) (g 9 j) (q / 4 + 1) (q / 4) := tab_in (by omega) hn _ (by unfold here; omega)
    rw [e1]
    show (if q / 4 = q / 4 then mk (mw (g 3) q (q / 4)) _ _ else _) = _
    rw [if_pos rfl, mw_at, tab_mw]
    unfold mval
    rw [tab_in (k := q / 4) (m := n) (by omega) hn _ (o1.here (by omega)), tab_in (k := q / 4) (m := n) (by omega) hn _ (o2.here (by omega))]
  rw [e]
  exact ⟨fun c => h0 c g2 (s1.tr s2), fun c => h1 c g2 (s1.tr s2)⟩
theorem q5_df_loop {q : Nat} {K : Int32 → Int32 → FF → VV → Prop} {g0 : FF} (hP : PI n t (sb g0 3) (sb u 2)) (hq : q < 4 * n)
    (hK : ∀ (x3 : Int32) (g : FF), S12 g0 g → K (nI (cntK (sb g0 3) n q 100)) x3 g u) :
    ∀ (d k : Nat) (g : FF), k + d = 100 → S12 g0 g → Q_X5_differs_L4 (nI q) K (d + 1) (nI (cntK (sb g0 3) n q k)) (nI k) g u := by
  have hn := hP.1
  intro d
  induction d with
  | zero =>
    intro k g hk hs
    rw [Q_X5_differs_L4]
    have hk : k = 100 := by omega
    subst hk
    exact ⟨fun _ => hK _ g hs, fun c => absurd (by decide) c⟩
  | succ d ih =>
    intro k g hk hs
    rw [Q_X5_differs_L4]
    refine ⟨fun c => ?_, fun _ => ?_⟩
    · rw [i100, le_nI (by omega) (by omega)] at c; omega
    · rw [i10, nI_mod (by omega) (by omega) (by omega), nI_div (by omega) (by omega) (by omega)]
      refine q5_plainRun (hP.s12 hs) (by omega) (fun g1 s1 m1 => q5_mutantRun ((hP.s12 hs).s12 s1) hq (fun g2 s2 m2 => ?_))
      have hs2 : S12 g0 g2 := (hs.tr s1).tr s2
      rw [s1 3 (by decide), s1 4 (by decide), s1 5 (by decide), hs 3 (by decide), hs 4 (by decide), hs 5 (by decide)]
      have := ih (k + 1) g2 (by omega) hs2
      rw [cntK] at this
      have ek : kill (sb g0 3 0) (sb g0 3 1) (sb g0 3 2) n (nI (k / 10)) (nI (k % 10)) q = decide (¬ out (mw (g0 3) q) (g0 4) (g0 5) (nI (k / 10)) (nI (k % 10)) n = out (g0 3) (g0 4) (g0 5) (nI (k / 10)) (nI (k % 10)) n) := rfl
      refine ⟨fun c x1 e1 x2 e2 => ?_, fun c x1 e1 x2 e2 => ?_⟩
      · rw [e1, e2, nI_1, nI_1]
        have hk1 : kill (sb g0 3 0) (sb g0 3 1) (sb g0 3 2) n (nI (k / 10)) (nI (k % 10)) q = true := by rw [ek]; exact decide_eq_true (fun z => c z.symm)
        rw [hk1, if_pos rfl] at this
        exact this
      · rw [e1, e2, nI_1, show ∀ z : Int32, z + 0 = z from fun z => by simp]
        rw [ek, decide_eq_false (not_not_intro c.symm), if_neg (by decide)] at this
        exact this
theorem q5_differs {q : Nat} (hP : PI n t (sb g 3) (sb u 2)) (hq : q < 4 * n) (h : ∀ g', S12 g g' → posf (nI (cntK (sb g 3) n q 100)) g' u) : Q_X5_differs (nI q) g u posf := by
  unfold Q_X5_differs
  exact ⟨101, q5_df_loop hP hq (fun _ g' hs => h g' hs) 100 0 g (by omega) S12.rf⟩
theorem q5_mutants (hP : PI n t (sb g 3) (sb u 2)) (h : post (nI (4 * n))) : Q_X5_mutants g u post := by
  unfold Q_X5_mutants
  have e0 : u 2 = nI n := hP.2.2.1
  rw [e0, i4, pk_mul]
  exact h
/-- a mutant is EQUAL -/
def eqM (f : FF) (n q : Nat) : Bool := decide (cntK f n q 100 = 0)
theorem q5_me_loop {K : Int32 → Int32 → FF → VV → Prop} {g0 : FF} (hP : PI n t (sb g0 3) (sb u 2)) (hK : ∀ (x2 : Int32) (g : FF), S12 g0 g → K (nI (fb_ct (eqM (sb g0 3) n) (4 * n))) x2 g u) :
    ∀ (d k : Nat) (g : FF), k + d = 4 * n → S12 g0 g → Q_X5_manyEqual_L4 K (d + 1) (nI (fb_ct (eqM (sb g0 3) n) k)) (nI k) g u := by
  have hn := hP.1
  intro d
  induction d with
  | zero =>
    intro k g hk hs
    rw [Q_X5_manyEqual_L4]
    refine q5_mutants (hP.s12 hs) ?_
    rw [show k = 4 * n by omega]
    exact ⟨fun _ => hK _ g hs, fun c => absurd (Int32.le_refl _) c⟩
  | succ d ih =>
    intro k g hk hs
    rw [Q_X5_manyEqual_L4]
    refine q5_mutants (hP.s12 hs) ⟨fun c => absurd ((le_nI (by omega) (by omega)).mp c) (by omega), fun _ => q5_differs (hP.s12 hs) (by omega) (fun g1 s1 => ?_)⟩
    rw [cntK_rows (f := sb g0 3) (fun j hj => hs.pv j hj)]
    have := ih (k + 1) g1 (by omega) (hs.tr s1)
    rw [fb_ct_succ] at this
    have hle := cntK_le (sb g0 3) n k 100
    refine ⟨fun c x1 e1 x2 e2 => ?_, fun c x1 e1 x2 e2 => ?_⟩
    · rw [e1, e2, nI_1, show ∀ z : Int32, z + 0 = z from fun z => by simp]
      rw [if_neg (by unfold eqM; rw [decide_eq_true_iff]; exact fun z => c (by rw [z]; rfl))] at this
      exact this
    · rw [e1, e2, nI_1, nI_1]
      rw [i0, nI_eq (by omega) (by omega)] at c
      rw [if_pos (by unfold eqM; exact decide_eq_true c)] at this
      exact this
theorem q5_manyEqual (hP : PI n t (sb g 3) (sb u 2)) (h : ∀ g', S12 g g' → posf (nI (fb_ct (eqM (sb g 3) n) (4 * n))) g' u) : Q_X5_manyEqual g u posf := by
  unfold Q_X5_manyEqual
  exact ⟨4 * n + 1, q5_me_loop hP (fun _ g' hs => h g' hs) (4 * n) 0 g (by omega) S12.rf⟩
/-- all rows but made and killers stay -/
def S123 (g g' : FF) : Prop := ∀ j, j ≠ 12 → j ≠ 13 → g' j = g j
theorem S123.rf {g : FF} : S123 g g := fun _ _ _ => rfl
theorem S123.tr {f g h : FF} (h1 : S123 f g) (h2 : S123 g h) : S123 f h := fun j a b => (h2 j a b).trans (h1 j a b)
theorem S12.up {g g' : FF} (h : S12 g g') : S123 g g' := fun j a _ => h j a
theorem S123.pv {g g' : FF} (h : S123 g g') : ∀ j, j < 7 → sb g' 3 j = sb g 3 j := fun j hj => h (3 + j) (by omega) (by omega)
theorem PI.s123 (hP : PI n t (sb g 3) (sb u 2)) {g' : FF} (hs : S123 g g') : PI n t (sb g' 3) (sb u 2) := hP.rows (fun j hj => hs.pv j (by omega)) rfl rfl
/-- which tests kill mutant q -/
def kls (g : FF) (n t q : Nat) : Int32 := bs (fun j => kt' (sb g 3) n j q) t
theorem q5_fk1_loop {q : Nat} {K : Int32 → FF → VV → Prop} {g0 : FF} {B : Nat → Int32} (hP : PI n t (sb g0 3) (sb u 2)) (hq : q < 4 * n)
    (hK : ∀ (x2 : Int32) (g : FF), S123 g0 g → g 13 = upd B q (kls g0 n t q) → K x2 g u) :
    ∀ (d k : Nat) (g : FF), k + d = t → S123 g0 g → g 13 = upd B q (bs (fun j => kt' (sb g0 3) n j q) k) → Q_X5_findKillers_L19 (nI q) K (d + 1) (nI k) g u := by
  have hn := hP.1
  have ht := hP.2.1
  have e1 : u 3 = nI t := hP.2.2.2.1
  have vq : vp_in (nI q) 20 := vi_nI (by omega) (by omega)
  have cq : (nI q).toNatClampNeg = q := nI_clamp (by omega)
  intro d
  induction d with
  | zero =>
    intro k g hk hs hb
    rw [Q_X5_findKillers_L19, e1]
    have : k = t := by omega
    subst this
    exact ⟨fun _ => hK _ g hs hb, fun c => absurd (Int32.le_refl _) c⟩
  | succ d ih =>
    intro k g hk hs hb
    rw [Q_X5_findKillers_L19, e1]
    have ekt : kt' (sb g 3) n k q = kt' (sb g0 3) n k q := kt_rows (fun j hj => hs.pv j hj) n k q
    have go : ∀ (g1 g2 : FF) (z : Int32), S12 g g1 → g2 = fu g1 13 (wr (g1 13) (nI q) ((g 13) (nI q).toNatClampNeg ||| z)) → z = (if kt' (sb g0 3) n k q = true then (1 : Int32) <<< (nI k &&& 31) else 0) → Q_X5_findKillers_L19 (nI q) K (d + 1) (nI (k + 1)) g2 u := by
      intro g1 g2 z s1 eg hz
      refine ih (k + 1) g2 (by omega) (fun j a b => by rw [eg, fu_ne b, s1 j a]; exact hs j a b) ?_
      rw [eg, fu_eq]
      show upd (g1 13) (nI q).toNatClampNeg _ = _
      rw [cq, s1 13 (by decide), hb, upd_eq, hz]
      funext j
      by_cases hj : j = q
      · rw [hj, upd_eq, upd_eq]; rfl
      · rw [upd_ne hj, upd_ne hj, upd_ne hj]
    refine ⟨fun c => absurd ((le_nI (by omega) (by omega)).mp c) (by omega), fun _ => ⟨vq, q5_kills (hP.s123 hs) (by omega) hq (fun hk1 g1 s1 => ⟨fun c => absurd c (by decide), fun _ => ⟨vq, fun g2 eg x ex => ?_⟩⟩) (fun hk0 g1 s1 => ⟨fun _ => ⟨vq, fun g2 eg x ex => ?_⟩, fun c => absurd rfl c⟩)⟩⟩
    · rw [ex, nI_1]
      rw [ekt] at hk1
      exact go g1 g2 _ s1 eg (by rw [if_pos hk1])
    · rw [ex, nI_1]
      rw [ekt] at hk0
      exact go g1 g2 _ s1 eg (by rw [if_neg (by rw [hk0]; decide)])
theorem q5_fk2_loop {K : Int32 → FF → VV → Prop} {g0 : FF} (hP : PI n t (sb g0 3) (sb u 2)) (hK : ∀ (x1 : Int32) (g : FF), S123 g0 g → (∀ q, q < 4 * n → g 13 q = kls g0 n t q) → K x1 g u) :
    ∀ (d k : Nat) (g : FF), k + d = 4 * n → S123 g0 g → (∀ q, q < k → g 13 q = kls g0 n t q) → Q_X5_findKillers_L2 K (d + 1) (nI k) g u := by
  have hn := hP.1
  intro d
  induction d with
  | zero =>
    intro k g hk hs hb
    rw [Q_X5_findKillers_L2]
    refine q5_mutants (hP.s123 hs) ⟨fun _ => hK _ g hs (fun q hq => hb q (by omega)), fun c => absurd (by rw [show k = 4 * n by omega]; exact Int32.le_refl _) c⟩
  | succ d ih =>
    intro k g hk hs hb
    rw [Q_X5_findKillers_L2]
    refine q5_mutants (hP.s123 hs) ⟨fun c => absurd ((le_nI (by omega) (by omega)).mp c) (by omega), fun _ => ⟨vi_nI (by omega) (by omega), fun g1 eg1 => ⟨t + 1, ?_⟩⟩⟩
    have ck : (nI k).toNatClampNeg = k := nI_clamp (by omega)
    have s1 : S123 g0 g1 := fun j a b => by rw [eg1, fu_ne b]; exact hs j a b
    have h13 : g1 13 = upd (g 13) k 0 := by rw [eg1, fu_eq]; show upd _ (nI k).toNatClampNeg _ = _; rw [ck]
    refine q5_fk1_loop (q := k) (g0 := g0) (B := g 13) hP (by omega) (fun x2 g2 s2 h2 x ex => ?_) t 0 g1 (by omega) s1 h13
    rw [ex, nI_1]
    refine ih (k + 1) g2 (by omega) s2 (fun q hq => ?_)
    rw [h2]
    by_cases hqk : q = k
    · rw [hqk, upd_eq]
    · rw [upd_ne hqk]; exact hb q (by omega)
theorem q5_findKillers {pos : FF → VV → Prop} (hP : PI n t (sb g 3) (sb u 2)) (h : ∀ g', S123 g g' → (∀ q, q < 4 * n → g' 13 q = kls g n t q) → pos g' u) : Q_X5_findKillers g u pos := by
  unfold Q_X5_findKillers
  exact ⟨4 * n + 1, q5_fk2_loop hP (fun _ g' hs hb => h g' hs hb) (4 * n) 0 g (by omega) S123.rf (fun q hq => by omega)⟩
end R5
/-! ===== the reference: sets ===== -/
def popF : Nat → Nat → Nat
  | 0, _ => 0
  | d + 1, s => s % 2 + popF d (s / 2)
def sz (S : Int32) : Int32 := if S ≤ 0 then 0 else nI (popF 31 S.toNatClampNeg)
theorem q5_size_loop {x0 : Int32} {K : Int32 → Int32 → Prop} : ∀ (d s a : Nat), s < 2 ^ d → d ≤ 31 → (∀ x2, K (nI (a + popF d s)) x2) → Q_X5_size_L4 x0 K (d + 1) (nI a) (nI s) := by
  intro d
  induction d with
  | zero =>
    intro s a hs hd hK
    rw [Q_X5_size_L4]
    have : s = 0 := by omega
    subst this
    exact ⟨fun _ => hK _, fun c => absurd (by decide) c⟩
  | succ d ih =>
    intro s a hs hd hK
    rw [Q_X5_size_L4]
    have hs31 : s < 2 ^ 31 := Nat.lt_of_lt_of_le hs (Nat.pow_le_pow_right (by omega) hd)
    refine ⟨fun c => ?_, fun c x1 e1 x2 e2 => ?_⟩
    · have : s = 0 := by
        rw [i0, le_nI hs31 (by omega)] at c
        omega
      subst this
      have hz : popF (d + 1) 0 = 0 := by
        have : ∀ d, popF d 0 = 0 := by
          intro d
          induction d with
          | zero => rfl
          | succ d ih => rw [popF, Nat.zero_div, ih]
        exact this _
      have := hK (nI 0)
      rw [hz, Nat.add_zero] at this
      exact this
    · have h1 : nI s &&& 1 = nI (s % 2) := pk_andN (n := s) (by omega) 1 rfl
      have h2 : nI s >>> ((1 : Int32) &&& 31) = nI (s / 2) := pk_shrN (n := s) hs31 _ 1 (by decide)
      rw [e1, e2, h1, h2, nI_add]
      have e : 2 ^ (d + 1) = 2 * 2 ^ d := by rw [Nat.pow_succ]; omega
      refine ih (s / 2) (a + s % 2) (by omega) (by omega) (fun x2 => ?_)
      have := hK x2
      rw [popF, ← Nat.add_assoc] at this
      exact this
theorem q5_size {S : Int32} {post : Int32 → Prop} (h : post (sz S)) : Q_X5_size S post := by
  unfold Q_X5_size
  unfold sz at h
  by_cases hS : S ≤ 0
  · rw [if_pos hS] at h
    refine ⟨1, ?_⟩
    rw [Q_X5_size_L4]
    exact ⟨fun _ => h, fun c => absurd hS c⟩
  · rw [if_neg hS] at h
    obtain ⟨s, hs, rfl⟩ := nI_of (x := S) (fun z => hS (Int32.le_of_lt z))
    rw [nI_clamp hs] at h
    exact ⟨32, q5_size_loop 31 s 0 hs (by omega) (fun _ => by rw [Nat.zero_add]; exact h)⟩
section S5
variable {n t : Nat} {g : FF} {u : VV} {posf : Int32 → FF → VV → Prop} {post : Int32 → Prop}
theorem q5_isStep {p : Int32} (hP : PI n t (sb g 3) (sb u 2)) (h1 : ∀ k, k < n → p = nI k → post 1) (h0 : (∀ k, k < n → p ≠ nI k) → post 0) : Q_X5_isStep p g u post := by
  have hn := hP.1
  have e : u 2 = nI n := hP.2.2.1
  unfold Q_X5_isStep
  rw [e]
  refine ⟨fun c => h0 (fun k hk => nI_lt_ne c k (by omega)), fun c => ⟨fun c2 => h0 (nI_ge_ne (by omega) c2), fun c2 => ?_⟩⟩
  obtain ⟨j, hj, e⟩ := nI_rng (by omega) c c2
  exact h1 j hj e
theorem q5_isTest {p : Int32} (hP : PI n t (sb g 3) (sb u 2)) (h1 : ∀ k, k < t → p = nI k → post 1) (h0 : (∀ k, k < t → p ≠ nI k) → post 0) : Q_X5_isTest p g u post := by
  have ht := hP.2.1
  have e : u 3 = nI t := hP.2.2.2.1
  unfold Q_X5_isTest
  rw [e]
  refine ⟨fun c => h0 (fun k hk => nI_lt_ne c k (by omega)), fun c => ⟨fun c2 => h0 (nI_ge_ne (by omega) c2), fun c2 => ?_⟩⟩
  obtain ⟨j, hj, e⟩ := nI_rng (by omega) c c2
  exact h1 j hj e
theorem q5_isMutant {p : Int32} (hP : PI n t (sb g 3) (sb u 2)) (h1 : ∀ k, k < 4 * n → p = nI k → post 1) (h0 : (∀ k, k < 4 * n → p ≠ nI k) → post 0) : Q_X5_isMutant p g u post := by
  have hn := hP.1
  unfold Q_X5_isMutant
  refine ⟨fun c => h0 (fun k hk => nI_lt_ne c k (by omega)), fun c => q5_mutants hP ⟨fun c2 => h0 (nI_ge_ne (by omega) c2), fun c2 => ?_⟩⟩
  obtain ⟨j, hj, e⟩ := nI_rng (by omega) c c2
  exact h1 j hj e
theorem q5_weightOf {j : Nat} (hj : j < 7) (h : post (wgt (g 6 j) (g 7 j))) : Q_X5_weightOf (nI j) g u post := by
  unfold Q_X5_weightOf
  rw [nI_clamp (by omega)]
  unfold wgt at h
  have hi : vp_in (nI j) 7 := vi_nI (by omega) (by omega)
  refine ⟨hi, fun c => ⟨hi, fun c2 => ⟨hi, ?_⟩, fun c2 => ⟨hi, ?_⟩⟩, fun c => ⟨hi, ?_⟩⟩
  · rw [if_neg c, if_neg c2] at h; exact h
  · rw [if_neg c, if_pos c2] at h; exact h
  · rw [if_pos c] at h; exact h
theorem q5_kd_loop {K : Int32 → Int32 → Prop} (hP : PI n t (sb g 3) (sb u 2)) (hE : ∀ x2, K (nI (fb_ct (fun q => decide (¬ g 13 q = 0)) (4 * n))) x2) :
    ∀ (d k : Nat), k + d = 4 * n → Q_X5_killed_L4 g u K (d + 1) (nI (fb_ct (fun q => decide (¬ g 13 q = 0)) k)) (nI k) := by
  have hn := hP.1
  intro d
  induction d with
  | zero =>
    intro k hk
    rw [Q_X5_killed_L4]
    refine q5_mutants hP ?_
    rw [show k = 4 * n by omega]
    exact ⟨fun _ => hE _, fun c => absurd (Int32.le_refl _) c⟩
  | succ d ih =>
    intro k hk
    rw [Q_X5_killed_L4]
    have := ih (k + 1) (by omega)
    rw [fb_ct_succ] at this
    refine q5_mutants hP ⟨fun c => absurd ((le_nI (by omega) (by omega)).mp c) (by omega), fun _ => ⟨vi_nI (by omega) (by omega), ?_⟩⟩
    rw [nI_clamp (by omega)]
    refine ⟨fun c x1 e1 x2 e2 => ?_, fun c x1 e1 x2 e2 => ?_⟩
    · rw [e1, e2, nI_1, nI_1]; rw [if_pos (decide_eq_true c)] at this; exact this
    · rw [e1, e2, nI_1, show ∀ z : Int32, z + 0 = z from fun z => by simp]; rw [if_neg (by simp [c])] at this; exact this
theorem q5_killed (hP : PI n t (sb g 3) (sb u 2)) (h : post (nI (fb_ct (fun q => decide (¬ g 13 q = 0)) (4 * n)))) : Q_X5_killed g u post := ⟨4 * n + 1, q5_kd_loop hP (fun _ => h) (4 * n) 0 (by omega)⟩
/-- which mutants test j kills -/
def kB (B : Nat → Int32) (m j : Nat) : Int32 := bs (fun q => bt (B q) j) m
theorem q5_kb_loop {j : Nat} {K : Int32 → Int32 → Prop} (hP : PI n t (sb g 3) (sb u 2)) (hj : j < 32) (hE : ∀ x3, K (kB (g 13) (4 * n) j) x3) :
    ∀ (d k : Nat), k + d = 4 * n → Q_X5_killedBy_L4 g u (nI j) K (d + 1) (kB (g 13) k j) (nI k) := by
  have hn := hP.1
  intro d
  induction d with
  | zero =>
    intro k hk
    rw [Q_X5_killedBy_L4]
    refine q5_mutants hP ?_
    rw [show k = 4 * n by omega]
    exact ⟨fun _ => hE _, fun c => absurd (Int32.le_refl _) c⟩
  | succ d ih =>
    intro k hk
    rw [Q_X5_killedBy_L4]
    have := ih (k + 1) (by omega)
    unfold kB at this
    rw [bs] at this
    refine q5_mutants hP ⟨fun c => absurd ((le_nI (by omega) (by omega)).mp c) (by omega), fun _ => ⟨vi_nI (by omega) (by omega), fun x1 e1 x2 e2 => ?_⟩⟩
    rw [e1, e2, nI_1, nI_clamp (by omega), bit_shl _ hj (by omega)]
    exact this
theorem q5_killedBy {j : Nat} (hP : PI n t (sb g 3) (sb u 2)) (hj : j < 32) (h : post (kB (g 13) (4 * n) j)) : Q_X5_killedBy (nI j) g u post := ⟨4 * n + 1, q5_kb_loop hP hj (fun _ => h) (4 * n) 0 (by omega)⟩
theorem q5_doesSubsume {a b : Nat} (ha : a < 20) (hb : b < 20) (h1 : sub (g 13) b a = true → post 1) (h0 : sub (g 13) b a = false → post 0) : Q_X5_doesSubsume (nI a) (nI b) g u post := by
  unfold Q_X5_doesSubsume
  rw [nI_clamp (by omega), nI_clamp (by omega)]
  unfold sub at h1 h0
  have va : vp_in (nI a) 20 := vi_nI (by omega) (by omega)
  have vb : vp_in (nI b) 20 := vi_nI (by omega) (by omega)
  exact ⟨va, fun c => h0 (decide_eq_false (fun z => z.1 c)), fun c => ⟨va, vb, fun c2 => h0 (decide_eq_false (fun z => c2 z.2)), fun c2 => h1 (decide_eq_true ⟨c, c2⟩)⟩⟩
def b2 (b : Bool) : Int32 := if b = true then 1 else 0
theorem q5_il_loop {q : Nat} {K : Int32 → Int32 → Prop} (hP : PI n t (sb g 3) (sb u 2)) (hq : q < 4 * n) (b0 : Bool) (hE : ∀ x3, K (b2 (b0 && (List.range (4 * n)).all (fun r => noBy (g 13) q r))) x3) :
    ∀ (d k : Nat), k + d = 4 * n → Q_X5_isLeast_L17 g u (nI q) K (d + 1) (b2 (b0 && (List.range k).all (fun r => noBy (g 13) q r))) (nI k) := by
  have hn := hP.1
  intro d
  induction d with
  | zero =>
    intro k hk
    rw [Q_X5_isLeast_L17]
    refine q5_mutants hP ?_
    rw [show k = 4 * n by omega]
    exact ⟨fun _ => hE _, fun c => absurd (Int32.le_refl _) c⟩
  | succ d ih =>
    intro k hk
    rw [Q_X5_isLeast_L17]
    have := ih (k + 1) (by omega)
    rw [List.range_succ, List.all_append] at this
    simp only [List.all_cons, List.all_nil, Bool.and_true] at this
    rw [← Bool.and_assoc] at this
    have vq : vp_in (nI q) 20 := vi_nI (by omega) (by omega)
    have vk : vp_in (nI k) 20 := vi_nI (by omega) (by omega)
    refine q5_mutants hP ⟨fun c => absurd ((le_nI (by omega) (by omega)).mp c) (by omega), fun _ => ?_⟩
    rw [nI_clamp (by omega), nI_clamp (by omega)]
    cases hb : (b0 && (List.range k).all fun r => noBy (g 13) q r) with
    | false =>
      rw [hb] at this
      refine ⟨fun _ x1 e1 => ?_, fun c => absurd rfl c⟩
      rw [e1, nI_1]
      exact this
    | true =>
      rw [hb, Bool.true_and] at this
      refine ⟨fun c => absurd c (by decide), fun _ => q5_doesSubsume (by omega) (by omega) (fun hs => ⟨fun c => absurd c (by decide), fun _ => ⟨vk, vq, fun c x1 e1 => ?_, fun c => ⟨fun c2 x1 e1 => ?_, fun c2 x1 e1 => ?_⟩⟩⟩) (fun hs => ⟨fun _ x1 e1 => ?_, fun c => absurd rfl c⟩)⟩
      · rw [e1, nI_1]
        rw [show noBy (g 13) q k = false from by unfold noBy; rw [hs, decide_eq_true c]; rfl] at this
        exact this
      · rw [e1, nI_1]
        rw [nI_ltI (by omega) (by omega)] at c2
        rw [show noBy (g 13) q k = false from by unfold noBy; rw [hs, decide_eq_true c2]; simp] at this
        exact this
      · rw [e1, nI_1]
        rw [nI_ltI (by omega) (by omega)] at c2
        rw [show noBy (g 13) q k = true from by unfold noBy; rw [hs, decide_eq_false (not_not_intro c), decide_eq_false c2]; rfl] at this
        exact this
      · rw [e1, nI_1]
        rw [show noBy (g 13) q k = true from by unfold noBy; rw [hs]; rfl] at this
        exact this
theorem b2_01 (b : Bool) : b2 b = 0 ∨ b2 b = 1 := by cases b <;> simp [b2]
theorem q5_isLeast {q : Nat} (hP : PI n t (sb g 3) (sb u 2)) (hq : q < 4 * n) (h : post (b2 (least (g 13) (4 * n) q))) : Q_X5_isLeast (nI q) g u post := by
  have hn := hP.1
  unfold Q_X5_isLeast
  rw [nI_clamp (by omega)]
  unfold least at h
  refine ⟨vi_nI (by omega) (by omega), fun c => ⟨4 * n + 1, ?_⟩, fun c => ⟨4 * n + 1, ?_⟩⟩
  · rw [decide_eq_false (not_not_intro c)] at h
    exact q5_il_loop hP hq false (fun _ => ⟨b2_01 _, h⟩) (4 * n) 0 (by omega)
  · rw [decide_eq_true c] at h
    exact q5_il_loop hP hq true (fun _ => ⟨b2_01 _, h⟩) (4 * n) 0 (by omega)
theorem q5_sb_loop {q : Nat} {K : Int32 → Int32 → Prop} (hP : PI n t (sb g 3) (sb u 2)) (hq : q < 4 * n) (hE : ∀ x3, K (nI (fb_ct (fun k => sub (g 13) k q) (4 * n))) x3) :
    ∀ (d k : Nat), k + d = 4 * n → Q_X5_subsumed_L4 g u (nI q) K (d + 1) (nI (fb_ct (fun k => sub (g 13) k q) k)) (nI k) := by
  have hn := hP.1
  intro d
  induction d with
  | zero =>
    intro k hk
    rw [Q_X5_subsumed_L4]
    refine q5_mutants hP ?_
    rw [show k = 4 * n by omega]
    exact ⟨fun _ => hE _, fun c => absurd (Int32.le_refl _) c⟩
  | succ d ih =>
    intro k hk
    rw [Q_X5_subsumed_L4]
    have := ih (k + 1) (by omega)
    rw [fb_ct_succ] at this
    refine q5_mutants hP ⟨fun c => absurd ((le_nI (by omega) (by omega)).mp c) (by omega), fun _ => q5_doesSubsume (by omega) (by omega) (fun hs => ⟨fun c => absurd c (by decide), fun _ x1 e1 x2 e2 => ?_⟩) (fun hs => ⟨fun _ x1 e1 x2 e2 => ?_, fun c => absurd rfl c⟩)⟩
    · rw [e1, e2, nI_1, nI_1]; rw [hs, if_pos rfl] at this; exact this
    · rw [e1, e2, nI_1, show ∀ z : Int32, z + 0 = z from fun z => by simp]; rw [hs, if_neg (by decide)] at this; exact this
theorem q5_subsumed {q : Nat} (hP : PI n t (sb g 3) (sb u 2)) (hq : q < 4 * n) (h : post (nI (fb_ct (fun k => sub (g 13) k q) (4 * n)))) : Q_X5_subsumed (nI q) g u post := ⟨4 * n + 1, q5_sb_loop hP hq (fun _ => h) (4 * n) 0 (by omega)⟩
theorem q5_ml_loop {K : Int32 → Int32 → Prop} (hP : PI n t (sb g 3) (sb u 2)) (hE : ∀ x2, K (nI (fb_ct (least (g 13) (4 * n)) (4 * n))) x2) :
    ∀ (d k : Nat), k + d = 4 * n → Q_X5_manyLeast_L4 g u K (d + 1) (nI (fb_ct (least (g 13) (4 * n)) k)) (nI k) := by
  have hn := hP.1
  intro d
  induction d with
  | zero =>
    intro k hk
    rw [Q_X5_manyLeast_L4]
    refine q5_mutants hP ?_
    rw [show k = 4 * n by omega]
    exact ⟨fun _ => hE _, fun c => absurd (Int32.le_refl _) c⟩
  | succ d ih =>
    intro k hk
    rw [Q_X5_manyLeast_L4]
    have := ih (k + 1) (by omega)
    rw [fb_ct_succ] at this
    refine q5_mutants hP ⟨fun c => absurd ((le_nI (by omega) (by omega)).mp c) (by omega), fun _ => q5_isLeast hP (by omega) ?_⟩
    cases hs : least (g 13) (4 * n) k with
    | true => exact ⟨fun c => absurd c (by decide), fun _ x1 e1 x2 e2 => by rw [e1, e2, nI_1, nI_1]; rw [hs, if_pos rfl] at this; exact this⟩
    | false => exact ⟨fun _ x1 e1 x2 e2 => by rw [e1, e2, nI_1, show ∀ z : Int32, z + 0 = z from fun z => by simp]; rw [hs, if_neg (by decide)] at this; exact this, fun c => absurd rfl c⟩
theorem q5_manyLeast (hP : PI n t (sb g 3) (sb u 2)) (h : post (nI (fb_ct (least (g 13) (4 * n)) (4 * n)))) : Q_X5_manyLeast g u post := ⟨4 * n + 1, q5_ml_loop hP (fun _ => h) (4 * n) 0 (by omega)⟩
/-- what a set leaves -/
def lft (B : Nat → Int32) (S : Int32) (m : Nat) : Int32 := bs (fun q => decide (¬ B q = 0 ∧ (B q &&& S) = 0)) m
theorem or0 (x : Int32) : x ||| 0 = x := by apply b_ext; intro i hi; rw [b_or, b_0, Bool.or_false]
theorem q5_lb_loop {S : Int32} {K : Int32 → Int32 → Prop} (hP : PI n t (sb g 3) (sb u 2)) (hE : ∀ x3, K (lft (g 13) S (4 * n)) x3) :
    ∀ (d k : Nat), k + d = 4 * n → Q_X5_leftBy_L4 g u S K (d + 1) (lft (g 13) S k) (nI k) := by
  have hn := hP.1
  intro d
  induction d with
  | zero =>
    intro k hk
    rw [Q_X5_leftBy_L4]
    refine q5_mutants hP ?_
    rw [show k = 4 * n by omega]
    exact ⟨fun _ => hE _, fun c => absurd (Int32.le_refl _) c⟩
  | succ d ih =>
    intro k hk
    rw [Q_X5_leftBy_L4]
    have := ih (k + 1) (by omega)
    unfold lft at this ⊢
    rw [bs] at this
    have vk : vp_in (nI k) 20 := vi_nI (by omega) (by omega)
    refine q5_mutants hP ⟨fun c => absurd ((le_nI (by omega) (by omega)).mp c) (by omega), fun _ => ⟨vk, ?_⟩⟩
    rw [nI_clamp (by omega)]
    refine ⟨fun c x1 e1 x2 e2 => ?_, fun c => ⟨vk, fun c2 x1 e1 x2 e2 => ?_, fun c2 x1 e1 x2 e2 => ?_⟩⟩
    · rw [e1, e2, nI_1, or0]; rw [if_neg (by rw [decide_eq_true_iff]; exact fun z => z.1 c), or0] at this; exact this
    · rw [e1, e2, nI_1, or0]; rw [if_neg (by rw [decide_eq_true_iff]; exact fun z => c2 z.2), or0] at this; exact this
    · rw [e1, e2, nI_1]; rw [if_pos (decide_eq_true ⟨c, c2⟩)] at this; exact this
theorem q5_leftBy {S : Int32} (hP : PI n t (sb g 3) (sb u 2)) (h : post (lft (g 13) S (4 * n))) : Q_X5_leftBy S g u post := ⟨4 * n + 1, q5_lb_loop hP (fun _ => h) (4 * n) 0 (by omega)⟩
theorem bit_mul (x W : Int32) {k : Nat} (hk : k < 32) : ((x >>> (nI k &&& 31)) &&& 1) * W = if ((x >>> (nI k &&& 31)) &&& 1) = 1 then W else 0 := by
  rw [shr1 x hk]
  split
  · rw [if_pos rfl, Int32.one_mul]
  · rw [if_neg (by decide), Int32.zero_mul]
theorem q5_ws_loop {S : Int32} {K : Int32 → Int32 → Prop} (hP : PI n t (sb g 3) (sb u 2)) (hE : ∀ x3, K (sumW (fun j => wgt (g 6 j) (g 7 j)) S t) x3) :
    ∀ (d k : Nat), k + d = t → Q_X5_weightOfSet_L4 g u S K (d + 1) (sumW (fun j => wgt (g 6 j) (g 7 j)) S k) (nI k) := by
  have ht := hP.2.1
  have e : u 3 = nI t := hP.2.2.2.1
  intro d
  induction d with
  | zero =>
    intro k hk
    rw [Q_X5_weightOfSet_L4, e, show k = t by omega]
    exact ⟨fun _ => hE _, fun c => absurd (Int32.le_refl _) c⟩
  | succ d ih =>
    intro k hk
    rw [Q_X5_weightOfSet_L4, e]
    have := ih (k + 1) (by omega)
    rw [sumW, bit_mul _ _ (by omega)] at this
    refine ⟨fun c => absurd ((le_nI (by omega) (by omega)).mp c) (by omega), fun _ => ⟨fun c x1 e1 x2 e2 => ?_, fun c => q5_weightOf (by omega) (fun x1 e1 x2 e2 => ?_)⟩⟩
    · rw [e1, e2, nI_1]; rw [if_neg c] at this; exact this
    · rw [e1, e2, nI_1]; rw [if_pos c] at this; exact this
theorem q5_weightOfSet {S : Int32} (hP : PI n t (sb g 3) (sb u 2)) (h : post (sumW (fun j => wgt (g 6 j) (g 7 j)) S t)) : Q_X5_weightOfSet S g u post := ⟨t + 1, q5_ws_loop hP (fun _ => h) t 0 (by omega)⟩
/-- COVER of the first k sets -/
def cov (B W : Nat → Int32) (m t : Nat) : Nat → Int32
  | 0 => -9
  | k + 1 => if ¬ lft B (nI k) m = 0 then cov B W m t k else if cov B W m t k = -9 then nI k else if sumW W (cov B W m t k) t ≤ sumW W (nI k) t then cov B W m t k else nI k
theorem q5_fc_loop {K : Int32 → Int32 → Prop} (hP : PI n t (sb g 3) (sb u 2)) (hE : ∀ x2, K (cov (g 13) (fun j => wgt (g 6 j) (g 7 j)) (4 * n) t (2 ^ t)) x2) :
    ∀ (d k : Nat), k + d = 2 ^ t → Q_X5_findCover_L5 g u K (d + 1) (cov (g 13) (fun j => wgt (g 6 j) (g 7 j)) (4 * n) t k) (nI k) := by
  have ht := hP.2.1
  have h2 := two_t ht
  have e : u 3 = nI t := hP.2.2.2.1
  intro d
  induction d with
  | zero =>
    intro k hk
    rw [Q_X5_findCover_L5, e, shl_t t ht, show k = 2 ^ t by omega]
    exact ⟨fun _ => hE _, fun c => absurd (Int32.le_refl _) c⟩
  | succ d ih =>
    intro k hk
    rw [Q_X5_findCover_L5, e, shl_t t ht]
    have := ih (k + 1) (by omega)
    rw [cov] at this
    refine ⟨fun c => absurd ((le_nI (by omega) (by omega)).mp c) (by omega), fun _ => q5_leftBy hP ⟨fun c x1 e1 => ?_, fun c => ⟨fun c2 x1 e1 => ?_, fun c2 => q5_weightOfSet hP (q5_weightOfSet hP ⟨fun c3 x1 e1 => ?_, fun c3 x1 e1 => ?_⟩)⟩⟩⟩
    · rw [e1, nI_1]; rw [if_pos c] at this; exact this
    · rw [e1, nI_1]; rw [if_neg (not_not_intro c), if_pos c2] at this; exact this
    · rw [e1, nI_1]; rw [if_neg (not_not_intro c), if_neg c2, if_pos c3] at this; exact this
    · rw [e1, nI_1]; rw [if_neg (not_not_intro c), if_neg c2, if_neg c3] at this; exact this
theorem q5_findCover (hP : PI n t (sb g 3) (sb u 2)) (h : post (cov (g 13) (fun j => wgt (g 6 j) (g 7 j)) (4 * n) t (2 ^ t))) : Q_X5_findCover g u post := ⟨2 ^ t + 1, q5_fc_loop hP (fun _ => h) (2 ^ t) 0 (by omega)⟩
/-- the reference's 'better' -/
def btr5 (B W : Nat → Int32) (m : Nat) (mn : Int32) (a b : Nat) (left : Int32) : Bool := if mn = 0 then decide (¬ sz (kB B m a &&& left) ≤ sz (kB B m b &&& left)) else if mn = 1 then decide (¬ W b ≤ W a) else decide (¬ sz (kB B m a &&& left) * W b ≤ sz (kB B m b &&& left) * W a)
theorem q5_isBetter {mn left : Int32} {a b : Nat} (hP : PI n t (sb g 3) (sb u 2)) (ha : a < 7) (hb : b < 7) (h1 : btr5 (g 13) (fun j => wgt (g 6 j) (g 7 j)) (4 * n) mn a b left = true → post 1) (h0 : btr5 (g 13) (fun j => wgt (g 6 j) (g 7 j)) (4 * n) mn a b left = false → post 0) : Q_X5_isBetter (nI a) (nI b) left mn g u post := by
  unfold Q_X5_isBetter
  unfold btr5 at h1 h0
  refine q5_killedBy hP (by omega) (q5_size (q5_killedBy hP (by omega) (q5_size ⟨fun c => ⟨fun c2 => q5_weightOf hb (q5_weightOf ha ?_), fun c2 => q5_weightOf ha (q5_weightOf hb ?_)⟩, fun c => ?_⟩)))
  · rw [if_neg c, if_neg c2] at h1 h0
    exact ⟨fun c3 => h0 (by simp [c3]), fun c3 => h1 (by simp [c3])⟩
  · rw [if_neg c, if_pos c2] at h1 h0
    exact ⟨fun c3 => h0 (by simp [c3]), fun c3 => h1 (by simp [c3])⟩
  · rw [if_pos c] at h1 h0
    exact ⟨fun c3 => h0 (by simp [c3]), fun c3 => h1 (by simp [c3])⟩
end S5
/-! ===== the reference reads TEXTS ===== -/
theorem q5_within {x lo hi : Int32} {post : Int32 → Prop} (h1 : lo ≤ x → x ≤ hi → post 1) (h0 : ¬ (lo ≤ x ∧ x ≤ hi) → post 0) : Q_X5_within x lo hi post := by
  unfold Q_X5_within
  refine ⟨fun c => h0 (fun z => absurd z.1 (Int32.not_le.mpr c)), fun c => ⟨fun c2 => h0 (fun z => absurd z.2 (Int32.not_le.mpr c2)), fun c2 => h1 (Int32.not_lt.mp c) (Int32.not_lt.mp c2)⟩⟩
theorem dgI (z lo hi lo' hi' : Int32) (h1 : lo'.toInt = lo.toInt + 48) (h2 : hi'.toInt = hi.toInt + 48) (b1 : -1 ≤ lo.toInt) (b2 : lo.toInt ≤ 100) (b3 : -1 ≤ hi.toInt) (b4 : hi.toInt ≤ 100) : (lo' ≤ z ∧ z ≤ hi') ↔ (lo ≤ z - 48 ∧ z - 48 ≤ hi) := by
  have e48 : (48 : Int32).toInt = 48 := rfl
  have l1 := z.toInt_lt
  have l2 := z.le_toInt
  simp only [Int32.le_iff_toInt_le, Int32.toInt_sub, e48, Int.bmod]
  split <;> omega
theorem k47 : ∀ k, k < 6 → ((47 : Int32) + nI k).toInt = (nI k - 1).toInt + 48 ∧ -1 ≤ (nI k - 1).toInt ∧ (nI k - 1).toInt ≤ 100 := by decide +kernel
theorem dg5 (z : Int32) {k : Nat} (hk : k < 6) : (48 ≤ z ∧ z ≤ 47 + nI k) ↔ (0 ≤ z - 48 ∧ z - 48 ≤ nI k - 1) :=
  dgI z 0 (nI k - 1) 48 (47 + nI k) rfl (k47 k hk).1 (by decide) (by decide) (k47 k hk).2.1 (k47 k hk).2.2
theorem dg0 (z : Int32) : (48 ≤ z ∧ z ≤ 57) ↔ (0 ≤ z - 48 ∧ z - 48 ≤ 9) := dgI z 0 9 48 57 rfl rfl (by decide) (by decide) (by decide) (by decide)
theorem dg1 (z : Int32) : (49 ≤ z ∧ z ≤ 57) ↔ (1 ≤ z - 48 ∧ z - 48 ≤ 9) := dgI z 1 9 49 57 rfl rfl (by decide) (by decide) (by decide) (by decide)
theorem digV_9 {lo hi z : Int32} (hlo : 0 ≤ lo) : ¬ digV lo hi z = -9 := by
  unfold digV
  split
  · rename_i h
    intro e
    have := Int32.le_trans hlo h.1
    rw [e] at this
    exact absurd this (by decide)
  · decide
theorem srcV_9 (z : Int32) (k : Nat) : ¬ srcV z k = -9 := by
  unfold srcV
  split
  · decide
  · split
    · decide
    · exact digV_9 (by decide)
theorem digV_n1 {lo hi z : Int32} (hlo : 0 ≤ lo) : digV lo hi z = -1 ↔ ¬ (lo ≤ z - 48 ∧ z - 48 ≤ hi) := by
  unfold digV
  split
  · rename_i h
    constructor
    · intro e
      have := Int32.le_trans hlo h.1
      rw [e] at this
      exact absurd this (by decide)
    · intro c; exact absurd h c
  · rename_i h; exact ⟨fun _ => h, fun _ => rfl⟩
theorem srcV_ok {z : Int32} {k : Nat} (hk : k < 6) (h : ¬ srcV z k = -1) : okSrc (srcV z k) k := by
  unfold srcV at h ⊢
  split
  · exact ⟨5, rfl, by omega⟩
  · rename_i h1
    rw [if_neg h1] at h
    split
    · exact ⟨6, rfl, by omega⟩
    · rename_i h2
      rw [if_neg h2, digV_n1 (by decide)] at h
      have h := Classical.not_not.mp h
      unfold digV
      rw [if_pos h]
      rcases Nat.eq_zero_or_pos k with rfl | hk0
      · exact absurd (Int32.le_trans h.1 h.2) (by decide)
      · obtain ⟨j, hj, ej⟩ := nI_rng (p := z - 48) (n := k) (by omega) (Int32.not_lt.mpr h.1) (fun c => by
          have c1 := Int32.le_trans c h.2
          rw [Int32.le_iff_toInt_le] at c1
          have := (show ∀ k, k < 6 → 0 < k → ¬ (nI k).toInt ≤ (nI k - 1).toInt by decide +kernel) k hk hk0
          exact this c1)
        exact ⟨j, ej, Or.inl hj⟩
/-- the reference reads from cell b on, L cells, and is at p -/
def R5 (b L p : Nat) (u : VV) : Prop := b + L ≤ 240 ∧ p ≤ L ∧ u 4 = nI (b + p)
def M5 (b p : Nat) (u u' : VV) : Prop := u' 4 = nI (b + p) ∧ ∀ i, i ≠ 4 → u' i = u i
def cs (c : Nat → Int32) (b : Nat) : Nat → Int32 := fun j => c (b + j)
theorem R5.mv {b L p p' : Nat} {u u' : VV} (h : R5 b L p u) (hm : M5 b p' u u') (hp : p' ≤ L) : R5 b L p' u' := ⟨h.1, hp, hm.1⟩
theorem M5.tr {b p q : Nat} {v v' v'' : VV} (h : M5 b p v v') (h2 : M5 b q v' v'') : M5 b q v v'' := ⟨h2.1, fun i hi => (h2.2 i hi).trans (h.2 i hi)⟩
section T5
variable {b L p : Nat} {g : FF} {u : VV} {post : Int32 → Prop} {posf : Int32 → FF → VV → Prop}
theorem m5_1 (h : R5 b L p u) : ∀ u' : VV, u' = fu u 4 (nI (b + p) + 1) → M5 b (p + 1) u u' := fun u' e => ⟨by rw [e, fu_eq, nI_1]; rfl, fun i hi => by rw [e, fu_ne hi]⟩
theorem pkv_in {c : Nat → Int32} (h : p < L) : pkv c L p = c p := if_pos h
theorem pkv_end {c : Nat → Int32} (h : ¬ p < L) : pkv c L p = -1 := if_neg h
theorem q5_isSign {code : Int32} (hc : ¬ code = -1) (h : R5 b L p u) (h1 : pkv (cs (g 2) b) L p = code → p < L → ∀ u', M5 b (p + 1) u u' → posf 1 g u') (h0 : ¬ pkv (cs (g 2) b) L p = code → posf 0 g u) : Q_X5_isSign (nI (b + L)) code g u posf := by
  have hb := h.1
  have hp := h.2.1
  unfold Q_X5_isSign
  rw [h.2.2, nI_clamp (by omega)]
  refine ⟨fun c => h0 ?_, fun c => ?_⟩
  · rw [le_nI (by omega) (by omega)] at c
    rw [pkv_end (by omega)]; exact fun e => hc e.symm
  · rw [le_nI (by omega) (by omega)] at c
    have hl : p < L := by omega
    rw [pkv_in hl] at h1 h0
    exact ⟨vi_nI (by omega) (by omega), fun e u' eu => h1 e hl u' (m5_1 h u' eu), fun e => h0 e⟩
theorem q5_wayBy {z : Int32} (h : post (if wIdx z = -1 then -9 else wIdx z)) : Q_X5_wayBy z post := by
  unfold Q_X5_wayBy
  unfold wIdx at h
  refine ⟨fun c => ?_, fun c => ⟨fun c2 => ?_, fun c2 => ⟨fun c3 => ?_, fun c3 => ⟨fun c4 => ?_, fun c4 => ⟨fun c5 => ?_, fun c5 => ?_⟩⟩⟩⟩⟩
  · rw [c] at h; exact h
  · rw [c2] at h; exact h
  · rw [c3] at h; exact h
  · rw [c4] at h; exact h
  · rw [c5] at h; exact h
  · rw [if_neg c, if_neg c5, if_neg c4, if_neg c2, if_neg c3] at h; exact h
theorem q5_src {K0 K1 : Int32 → FF → VV → Prop} {e k n : Nat} (he : e < 3) (hk : k < 5) (h : R5 b L p u) (h5 : u 5 = nI k)
    (h0 : srcV (pkv (cs (g 2) b) L p) k = -1 → ∀ g', g' 10 = upd (g 10) (3 * k + e) (-9) → (∀ j, j ≠ 10 → g' j = g j) → K0 (nI e) g' u)
    (h1 : ¬ srcV (pkv (cs (g 2) b) L p) k = -1 → p < L → ∀ g' u', g' 10 = upd (g 10) (3 * k + e) (srcV (pkv (cs (g 2) b) L p) k) → (∀ j, j ≠ 10 → g' j = g j) → M5 b (p + 1) u u' → Q_X5_readStepNext_L56 (nI (b + L)) (nI (3 * k)) K0 K1 n (nI (e + 1)) g' u') :
    Q_X5_readStepNext_L56 (nI (b + L)) (nI (3 * k)) K0 K1 (n + 1) (nI e) g u := by
  have hb := h.1
  have hp := h.2.1
  rw [Q_X5_readStepNext_L56]
  rw [h.2.2, h5, nI_add, nI_clamp (n := b + p) (by omega), nI_clamp (n := 3 * k + e) (by omega)]
  have vi : vp_in (nI (3 * k + e)) 15 := vi_nI (by omega) (by omega)
  have T : ∀ val : Int32, (srcV (pkv (cs (g 2) b) L p) k = -1 ∧ val = -9) ∨ (¬ srcV (pkv (cs (g 2) b) L p) k = -1 ∧ p < L ∧ val = srcV (pkv (cs (g 2) b) L p) k) →
      (vp_in (nI (3 * k + e)) 15 ∧ (∀ f_12 : FF, f_12 = fu g 10 (wr (g 10) (nI (3 * k + e)) val) → (vp_in (nI (3 * k + e)) 15 ∧ (((¬ ((f_12 10) (3 * k + e)) = (-9 : Int32) → (∀ v_15 : VV, v_15 = fu u 4 (nI (b + p) + (1 : Int32)) → (∀ x_16 : Int32, x_16 = (nI e + (1 : Int32)) → (Q_X5_readStepNext_L56 (nI (b + L)) (nI (3 * k)) K0 K1 n x_16 f_12 v_15)))) ∧ (((f_12 10) (3 * k + e)) = (-9 : Int32) → (K0 (nI e) f_12 u))))))) := by
    intro val hv
    refine ⟨vi, fun g' eg => ⟨vi, ?_⟩⟩
    have e10 : g' 10 = upd (g 10) (3 * k + e) val := by
      rw [eg, fu_eq]; show upd _ (nI (3 * k + e)).toNatClampNeg _ = _; rw [nI_clamp (by omega)]
    have er : ∀ j, j ≠ 10 → g' j = g j := fun j hj => by rw [eg, fu_ne hj]
    rw [e10, upd_eq]
    rcases hv with ⟨a, rfl⟩ | ⟨a, a2, rfl⟩
    · exact ⟨fun c => absurd rfl c, fun _ => h0 a g' e10 er⟩
    · refine ⟨fun _ u' eu x ex => ?_, fun c => absurd c (srcV_9 _ _)⟩
      rw [ex, nI_1]
      exact h1 a a2 g' u' e10 er (m5_1 h u' eu)
  refine ⟨fun c => absurd ((le_nI (a := 3) (by omega) (by omega)).mp c) (by omega), fun _ => ⟨fun c => ?_, fun c => ?_⟩⟩
  · rw [le_nI (by omega) (by omega)] at c
    have hpe : pkv (cs (g 2) b) L p = -1 := pkv_end (by omega)
    refine q5_within (fun a _ => absurd a (by decide)) (fun _ => ⟨fun _ => T _ (Or.inl ⟨?_, rfl⟩), fun c => absurd rfl c⟩)
    rw [hpe]
    unfold srcV
    rw [if_neg (by decide), if_neg (by decide), digV_n1 (by decide)]
    exact fun z => absurd z.1 (by decide)
  · rw [le_nI (by omega) (by omega)] at c
    have hl : p < L := by omega
    refine ⟨vi_nI (by omega) (by omega), fun z ez => ?_⟩
    have hz : pkv (cs (g 2) b) L p = z := by rw [pkv_in hl, ez]; rfl
    rw [hz] at T
    unfold srcV at T
    refine ⟨fun c1 => ⟨fun c2 => q5_within (fun a a2 => ⟨fun c => absurd c (by decide), fun _ => T _ (Or.inr ?_)⟩) (fun a => ⟨fun _ => T _ (Or.inl ?_), fun c => absurd rfl c⟩), fun c2 => T _ (Or.inr ?_)⟩, fun c1 => T _ (Or.inr ?_)⟩
    · rw [if_neg c1, if_neg c2]
      have a3 := (dg5 z (by omega)).mp ⟨a, a2⟩
      rw [digV_n1 (by decide)]
      exact ⟨not_not_intro a3, hl, by unfold digV; rw [if_pos a3]⟩
    · rw [if_neg c1, if_neg c2, digV_n1 (by decide)]
      exact ⟨fun a3 => a ((dg5 z (by omega)).mpr a3), rfl⟩
    · rw [if_neg c1, if_pos c2]; exact ⟨by decide, hl, rfl⟩
    · rw [if_pos c1]; exact ⟨by decide, hl, rfl⟩
/-- a step's three numbers stand in the reader's row -/
def St3 (k : Nat) (w a c : Int32) (g g' : FF) : Prop := g' 10 (3 * k) = w ∧ g' 10 (3 * k + 1) = a ∧ g' 10 (3 * k + 2) = c ∧ (∀ i, i < 3 * k → g' 10 i = g 10 i) ∧ ∀ j, j ≠ 10 → g' j = g j
theorem q5_readStepNext {k : Nat} (hk : k < 5) (h : R5 b L p u) (h5 : u 5 = nI k)
    (h1 : ¬ wIdx (pkv (cs (g 2) b) L p) = -1 → ¬ srcV (pkv (cs (g 2) b) L (p + 1)) k = -1 → ¬ srcV (pkv (cs (g 2) b) L (p + 2)) k = -1 → p + 3 ≤ L → ∀ g' u', St3 k (wIdx (pkv (cs (g 2) b) L p)) (srcV (pkv (cs (g 2) b) L (p + 1)) k) (srcV (pkv (cs (g 2) b) L (p + 2)) k) g g' → M5 b (p + 3) u u' → posf 1 g' u')
    (h0 : ∀ s, s < 3 → p + s ≤ L → (s = 0 → wIdx (pkv (cs (g 2) b) L p) = -1) → (0 < s → ¬ wIdx (pkv (cs (g 2) b) L p) = -1) → (s = 1 → srcV (pkv (cs (g 2) b) L (p + 1)) k = -1) → (1 < s → ¬ srcV (pkv (cs (g 2) b) L (p + 1)) k = -1) → (s = 2 → srcV (pkv (cs (g 2) b) L (p + 2)) k = -1) → ∀ g' u', (∀ j, j ≠ 10 → g' j = g j) → M5 b (p + s) u u' → posf 0 g' u') :
    Q_X5_readStepNext (nI (b + L)) (nI (3 * k)) g u posf := by
  have hb := h.1
  have hp := h.2.1
  have M0 : M5 b p u u := ⟨h.2.2, fun _ _ => rfl⟩
  have vi : vp_in (nI (3 * k)) 15 := vi_nI (by omega) (by omega)
  unfold Q_X5_readStepNext
  rw [h.2.2, nI_clamp (n := b + p) (by omega), nI_clamp (n := 3 * k) (by omega)]
  refine ⟨fun c => ⟨vi, fun g' eg => ⟨vi, ?_⟩⟩, fun c => ⟨vi_nI (by have c1 := c; rw [le_nI (by omega) (by omega)] at c1; omega) (by omega), q5_wayBy ⟨vi, fun g' eg => ⟨vi, ?_⟩⟩⟩⟩
  · rw [le_nI (by omega) (by omega)] at c
    have e10 : g' 10 (3 * k) = -9 := by
      rw [eg, fu_eq]; show upd _ (nI (3 * k)).toNatClampNeg _ _ = _; rw [nI_clamp (by omega), upd_eq]
    rw [e10]
    refine ⟨fun c => absurd rfl c, fun _ => h0 0 (by omega) (by omega) (fun _ => ?_) (fun z => absurd z (by decide)) (fun z => absurd z (by decide)) (fun z => absurd z (by decide)) (fun z => absurd z (by decide)) g' u (fun j hj => by rw [eg, fu_ne hj]) M0⟩
    rw [pkv_end (by omega)]; rfl
  · rw [le_nI (by omega) (by omega)] at c
    have hl : p < L := by omega
    have hz : g 2 (b + p) = pkv (cs (g 2) b) L p := by rw [pkv_in hl]; rfl
    rw [hz] at eg
    have e10 : g' 10 = upd (g 10) (3 * k) (if wIdx (pkv (cs (g 2) b) L p) = -1 then -9 else wIdx (pkv (cs (g 2) b) L p)) := by
      rw [eg, fu_eq]; show upd _ (nI (3 * k)).toNatClampNeg _ = _; rw [nI_clamp (by omega)]
    have er : ∀ j, j ≠ 10 → g' j = g j := fun j hj => by rw [eg, fu_ne hj]
    by_cases hw : wIdx (pkv (cs (g 2) b) L p) = -1
    · rw [if_pos hw] at e10
      rw [e10, upd_eq]
      exact ⟨fun c => absurd rfl c, fun _ => h0 0 (by omega) (by omega) (fun _ => hw) (fun z => absurd z (by decide)) (fun z => absurd z (by decide)) (fun z => absurd z (by decide)) (fun z => absurd z (by decide)) g' u er M0⟩
    · rw [if_neg hw] at e10
      rw [e10, upd_eq]
      have w9 : ¬ wIdx (pkv (cs (g 2) b) L p) = -9 := by unfold wIdx; repeat' split
                                                         all_goals decide
      refine ⟨fun _ u1 eu1 => ⟨3, ?_⟩, fun c => absurd c w9⟩
      have m1 := m5_1 h u1 eu1
      have r1 : R5 b L (p + 1) u1 := h.mv m1 (by omega)
      have g2 : g' 2 = g 2 := er 2 (by decide)
      rw [show (1 : Int32) = nI 1 from rfl]
      refine q5_src (by omega) hk r1 (by rw [m1.2 5 (by decide)]; exact h5) ?_ ?_
      · intro s1 g2' e2 er2
        rw [g2] at s1
        exact h0 1 (by omega) (by omega) (fun z => absurd z (by decide)) (fun _ => hw) (fun _ => s1) (fun z => absurd z (by decide)) (fun z => absurd z (by decide)) g2' u1 (fun j hj => (er2 j hj).trans (er j hj)) m1
      · intro s1 hl1 g2' u2 e2 er2 m2
        rw [g2] at s1 e2
        have m2' := m1.tr m2
        have r2 : R5 b L (p + 2) u2 := r1.mv m2 (by omega)
        have g22 : g2' 2 = g 2 := (er2 2 (by decide)).trans g2
        refine q5_src (by omega) hk r2 (by rw [m2'.2 5 (by decide)]; exact h5) ?_ ?_
        · intro s2 g3' e3 er3
          rw [g22] at s2
          exact h0 2 (by omega) (by omega) (fun z => absurd z (by decide)) (fun _ => hw) (fun z => absurd z (by decide)) (fun _ => s1) (fun _ => s2) g3' u2 (fun j hj => (er3 j hj).trans ((er2 j hj).trans (er j hj))) m2'
        · intro s2 hl2 g3' u3 e3 er3 m3
          rw [g22] at s2 e3
          rw [Q_X5_readStepNext_L56]
          refine ⟨fun _ => h1 hw s1 s2 (by omega) g3' u3 ⟨?_, ?_, ?_, fun i hi => ?_, fun j hj => (er3 j hj).trans ((er2 j hj).trans (er j hj))⟩ (m2'.tr m3), fun c => absurd (Int32.le_refl _) c⟩
          · rw [e3, upd_ne (by omega), e2, upd_ne (by omega), e10, upd_eq]
          · rw [e3, upd_ne (by omega), e2, upd_eq]
          · rw [e3, upd_eq]
          · rw [e3, upd_ne (by omega), e2, upd_ne (by omega), e10, upd_ne (by omega)]
end T5
section T6
variable {b L p : Nat} {g : FF} {u : VV} {post : Int32 → Prop} {posf : Int32 → FF → VV → Prop}
def dlo (e : Nat) : Int32 := if e = 1 then 1 else 0
theorem dlo_0 (e : Nat) : 0 ≤ dlo e := by unfold dlo; split <;> decide
theorem q5_dig {K0 K1 : Int32 → FF → VV → Prop} {x3 : Int32} {e k n : Nat} (he : e < 4) (hk : k < 7) (h : R5 b L p u)
    (h0 : digV (dlo e) 9 (pkv (cs (g 2) b) L p) = -1 → K0 (nI e) g u)
    (h1 : ¬ digV (dlo e) 9 (pkv (cs (g 2) b) L p) = -1 → p < L → ∀ g' u', g' 11 = upd (g 11) (4 * k + e) (digV (dlo e) 9 (pkv (cs (g 2) b) L p)) → (∀ j, j ≠ 11 → g' j = g j) → M5 b (p + 1) u u' → Q_X5_readTestNext_L86 (nI (b + L)) (nI (4 * k)) x3 K0 K1 n (nI (e + 1)) g' u') :
    Q_X5_readTestNext_L86 (nI (b + L)) (nI (4 * k)) x3 K0 K1 (n + 1) (nI e) g u := by
  have hb := h.1
  have hp := h.2.1
  rw [Q_X5_readTestNext_L86]
  rw [h.2.2, nI_add, nI_clamp (n := b + p) (by omega)]
  have vi : vp_in (nI (4 * k + e)) 28 := vi_nI (by omega) (by omega)
  refine ⟨fun c => absurd ((le_nI (a := 4) (by omega) (by omega)).mp c) (by omega), fun _ => ⟨fun c => ?_, fun c => ?_⟩⟩
  · rw [le_nI (by omega) (by omega)] at c
    refine h0 ?_
    rw [pkv_end (by omega), digV_n1 (dlo_0 e)]
    exact fun z => absurd (Int32.le_trans (dlo_0 e) z.1) (by decide)
  · rw [le_nI (by omega) (by omega)] at c
    have hl : p < L := by omega
    have vp : vp_in (nI (b + p)) 240 := vi_nI (by omega) (by omega)
    have hz : pkv (cs (g 2) b) L p = g 2 (b + p) := by rw [pkv_in hl]; rfl
    rw [hz] at h0 h1
    have T : (dlo e ≤ g 2 (b + p) - 48 ∧ g 2 (b + p) - 48 ≤ 9) → ∀ f_15 : FF, f_15 = fu g 11 (wr (g 11) (nI (4 * k + e)) (g 2 (b + p) - (48 : Int32))) → (∀ v_16 : VV, v_16 = fu u 4 (nI (b + p) + (1 : Int32)) → (∀ x_17 : Int32, x_17 = (nI e + (1 : Int32)) → (Q_X5_readTestNext_L86 (nI (b + L)) (nI (4 * k)) x3 K0 K1 n x_17 f_15 v_16))) := by
      intro hd g' eg u' eu x ex
      rw [ex, nI_1]
      refine h1 (by rw [digV_n1 (dlo_0 e)]; exact not_not_intro hd) hl g' u' ?_ (fun j hj => by rw [eg, fu_ne hj]) (m5_1 h u' eu)
      rw [eg, fu_eq]; show upd _ (nI (4 * k + e)).toNatClampNeg _ = _; rw [nI_clamp (by omega)]
      unfold digV; rw [if_pos hd]
    refine ⟨vp, fun c1 => ?_, fun c1 => ?_⟩
    · have e1 : dlo e = 0 := if_neg (fun z => c1 (by rw [z]; rfl))
      rw [e1] at T h0
      refine q5_within (fun a a2 => ⟨fun _ => ⟨vp, vi, T ((dg0 _).mp ⟨a, a2⟩)⟩, fun c => absurd c (by decide)⟩) (fun a => ⟨fun c => absurd rfl c, fun _ => h0 (by rw [digV_n1 (by decide)]; exact fun z => a ((dg0 _).mpr z))⟩)
    · have e1 : dlo e = 1 := if_pos ((nI_eq (a := e) (b := 1) (by omega) (by omega)).mp c1)
      rw [e1] at T h0
      refine q5_within (fun a a2 => ⟨fun _ => ⟨vp, vi, T ((dg1 _).mp ⟨a, a2⟩)⟩, fun c => absurd c (by decide)⟩) (fun a => ⟨fun c => absurd rfl c, fun _ => h0 (by rw [digV_n1 (by decide)]; exact fun z => a ((dg1 _).mpr z))⟩)
/-- a test's four numbers stand in the reader's row -/
def Ts4 (k : Nat) (w a c d : Int32) (g g' : FF) : Prop := g' 11 (4 * k) = w ∧ g' 11 (4 * k + 1) = a ∧ g' 11 (4 * k + 2) = c ∧ g' 11 (4 * k + 3) = d ∧ (∀ i, i < 4 * k → g' 11 i = g 11 i) ∧ ∀ j, j ≠ 11 → g' j = g j
/-- where a test's text fails behind its comma: 4, if nowhere -/
def tf1 (c : Nat → Int32) (L p : Nat) : Nat := if kIdx (pkv c L p) = -1 then 0 else if digV 1 9 (pkv c L (p + 1)) = -1 then 1 else if digV 0 9 (pkv c L (p + 2)) = -1 then 2 else if digV 0 9 (pkv c L (p + 3)) = -1 then 3 else 4
theorem q5_readTestNext {k : Nat} (hk : k < 7) (h : R5 b L p u)
    (h1 : tf1 (cs (g 2) b) L p = 4 → p + 4 ≤ L → ∀ g' u', Ts4 k (kIdx (pkv (cs (g 2) b) L p)) (digV 1 9 (pkv (cs (g 2) b) L (p + 1))) (digV 0 9 (pkv (cs (g 2) b) L (p + 2))) (digV 0 9 (pkv (cs (g 2) b) L (p + 3))) g g' → M5 b (p + 4) u u' → posf 1 g' u')
    (h0 : ∀ s, s < 4 → p + s ≤ L → tf1 (cs (g 2) b) L p = s → ∀ g' u', (∀ j, j ≠ 11 → g' j = g j) → M5 b (p + s) u u' → posf 0 g' u') :
    Q_X5_readTestNext (nI (b + L)) (nI (4 * k)) g u posf := by
  have hb := h.1
  have hp := h.2.1
  have M0 : M5 b p u u := ⟨h.2.2, fun _ _ => rfl⟩
  have vi : vp_in (nI (4 * k)) 28 := vi_nI (by omega) (by omega)
  unfold Q_X5_readTestNext
  rw [h.2.2, nI_clamp (n := b + p) (by omega), nI_clamp (n := 4 * k) (by omega)]
  have B : kIdx (pkv (cs (g 2) b) L p) = -1 → ∀ g' : FF, g' = fu g 11 (wr (g 11) (nI (4 * k)) (-9)) → g' 11 (4 * k) = -9 ∧ posf 0 g' u := by
    intro hw g' eg
    refine ⟨?_, h0 0 (by omega) (by omega) (by unfold tf1; rw [if_pos hw]) g' u (fun j hj => by rw [eg, fu_ne hj]) M0⟩
    rw [eg, fu_eq]; show upd _ (nI (4 * k)).toNatClampNeg _ _ = _; rw [nI_clamp (by omega), upd_eq]
  have A : ∀ val x33 : Int32, p < L → kIdx (pkv (cs (g 2) b) L p) = val → ¬ val = -1 → ∀ g' : FF, g' = fu g 11 (wr (g 11) (nI (4 * k)) val) → g' 11 (4 * k) = val ∧ ∀ u1 : VV, u1 = fu u 4 (nI (b + p) + 1) → (∃ n_54 : Nat, Q_X5_readTestNext_L86 (nI (b + L)) (nI (4 * k)) x33 (fun x_55 f_56 v_57 => (posf (0 : Int32) f_56 v_57)) (fun x_58 f_59 v_60 => (posf (1 : Int32) f_59 v_60)) n_54 (1 : Int32) g' u1) := by
    intro val x33 hl ev hv g' eg
    have e11 : g' 11 = upd (g 11) (4 * k) val := by
      rw [eg, fu_eq]; show upd _ (nI (4 * k)).toNatClampNeg _ = _; rw [nI_clamp (by omega)]
    have er : ∀ j, j ≠ 11 → g' j = g j := fun j hj => by rw [eg, fu_ne hj]
    refine ⟨by rw [e11, upd_eq], fun u1 eu1 => ⟨4, ?_⟩⟩
    have hw : ¬ kIdx (pkv (cs (g 2) b) L p) = -1 := by rw [ev]; exact hv
    have m1 := m5_1 h u1 eu1
    have r1 : R5 b L (p + 1) u1 := h.mv m1 (by omega)
    have g2 : g' 2 = g 2 := er 2 (by decide)
    rw [show (1 : Int32) = nI 1 from rfl]
    refine q5_dig (by omega) hk r1 ?_ ?_
    · intro s1
      rw [g2] at s1
      exact h0 1 (by omega) (by omega) (by unfold tf1; rw [if_neg hw]; exact if_pos s1) g' u1 er m1
    intro s1 hl1 g2' u2 e2 er2 m2
    rw [g2] at s1 e2
    have m2' := m1.tr m2
    have r2 : R5 b L (p + 2) u2 := r1.mv m2 (by omega)
    have er2' : ∀ j, j ≠ 11 → g2' j = g j := fun j hj => (er2 j hj).trans (er j hj)
    refine q5_dig (by omega) hk r2 ?_ ?_
    · intro s2
      rw [er2' 2 (by decide)] at s2
      exact h0 2 (by omega) (by omega) (by unfold tf1; rw [if_neg hw, if_neg (show ¬ digV 1 9 _ = _ from s1)]; exact if_pos s2) g2' u2 er2' m2'
    intro s2 hl2 g3' u3 e3 er3 m3
    rw [er2' 2 (by decide)] at s2 e3
    have m3' := m2'.tr m3
    have r3 : R5 b L (p + 3) u3 := r2.mv m3 (by omega)
    have er3' : ∀ j, j ≠ 11 → g3' j = g j := fun j hj => (er3 j hj).trans (er2' j hj)
    refine q5_dig (by omega) hk r3 ?_ ?_
    · intro s3
      rw [er3' 2 (by decide)] at s3
      exact h0 3 (by omega) (by omega) (by unfold tf1; rw [if_neg hw, if_neg (show ¬ digV 1 9 _ = _ from s1), if_neg (show ¬ digV 0 9 _ = _ from s2)]; exact if_pos s3) g3' u3 er3' m3'
    intro s3 hl3 g4' u4 e4 er4 m4
    rw [er3' 2 (by decide)] at s3 e4
    rw [Q_X5_readTestNext_L86]
    refine ⟨fun _ => h1 (by unfold tf1; rw [if_neg hw, if_neg (show ¬ digV 1 9 _ = _ from s1), if_neg (show ¬ digV 0 9 _ = _ from s2)]; exact if_neg s3) (by omega) g4' u4 ⟨?_, ?_, ?_, ?_, fun i hi => ?_, fun j hj => (er4 j hj).trans (er3' j hj)⟩ (m3'.tr m4), fun c => absurd (Int32.le_refl _) c⟩
    · rw [e4, upd_ne (by omega), e3, upd_ne (by omega), e2, upd_ne (by omega), e11, upd_eq, ev]
    · rw [e4, upd_ne (by omega), e3, upd_ne (by omega), e2, upd_eq]; rfl
    · rw [e4, upd_ne (by omega), e3, upd_eq]; rfl
    · rw [e4, upd_eq]; rfl
    · rw [e4, upd_ne (by omega), e3, upd_ne (by omega), e2, upd_ne (by omega), e11, upd_ne (by omega)]
  refine ⟨fun c => ⟨vi, fun g' eg => ⟨vi, ?_⟩⟩, fun c => ?_⟩
  · rw [le_nI (by omega) (by omega)] at c
    obtain ⟨e1, e2⟩ := B (by rw [pkv_end (by omega)]; rfl) g' eg
    rw [e1]
    exact ⟨fun c => absurd rfl c, fun _ => e2⟩
  · rw [le_nI (by omega) (by omega)] at c
    have hl : p < L := by omega
    refine ⟨vi_nI (by omega) (by omega), fun z ez => ?_⟩
    have hz : pkv (cs (g 2) b) L p = z := by rw [pkv_in hl, ez]; rfl
    rw [hz] at A B
    refine ⟨fun c1 => ⟨fun c2 => ⟨fun c3 => ⟨vi, fun g' eg => ⟨vi, ?_⟩⟩, fun c3 => ⟨vi, fun g' eg => ⟨vi, ?_⟩⟩⟩, fun c2 => ⟨vi, fun g' eg => ⟨vi, ?_⟩⟩⟩, fun c1 => ⟨vi, fun g' eg => ⟨vi, ?_⟩⟩⟩
    · obtain ⟨e1, e2⟩ := B (by unfold kIdx; rw [if_neg c1, if_neg c2, if_neg c3]) g' eg
      rw [e1]
      exact ⟨fun c => absurd rfl c, fun _ => e2⟩
    · obtain ⟨e1, e2⟩ := A 2 z hl (by unfold kIdx; rw [if_neg c1, if_neg c2, if_pos c3]) (by decide) g' eg
      rw [e1]
      exact ⟨fun _ => e2, fun c => absurd c (by decide)⟩
    · obtain ⟨e1, e2⟩ := A 1 z hl (by unfold kIdx; rw [if_neg c1, if_pos c2]) (by decide) g' eg
      rw [e1]
      exact ⟨fun _ => e2, fun c => absurd c (by decide)⟩
    · obtain ⟨e1, e2⟩ := A 0 z hl (by unfold kIdx; rw [if_pos c1]) (by decide) g' eg
      rw [e1]
      exact ⟨fun _ => e2, fun c => absurd c (by decide)⟩
end T6
section T7
variable {b L : Nat} {c : Nat → Int32} {g0 : FF} {u0 : VV}
/-- k steps are read -/
def SS5 (c : Nat → Int32) (b L k : Nat) (g0 g : FF) (u0 u : VV) : Prop := R5 b L (1 + 4 * k) u ∧ u 5 = nI k ∧ (∀ i, i ≠ 4 → i ≠ 5 → u i = u0 i) ∧ (∀ j, j ≠ 10 → g j = g0 j) ∧ SRow c L k (fun i => g 10 (3 * i)) (fun i => g 10 (3 * i + 1)) (fun i => g 10 (3 * i + 2)) ∧ (∀ i, i < k → sf c L (1 + 4 * i) i = 4)
theorem rs5 {k : Nat} {g : FF} {u : VV} {N K : FF → VV → Prop} (hc : c = cs (g0 2) b) (hk : k < 5) (h : SS5 c b L k g0 g u0 u) (hN : ∀ g' u', SS5 c b L (k + 1) g0 g' u0 u' → N g' u')
    (h0 : ∀ s g' u', sf c L (1 + 4 * k) k = s → s < 4 → R5 b L (1 + 4 * k + s) u' → (∀ i, i ≠ 4 → i ≠ 5 → u' i = u0 i) → (∀ j, j ≠ 10 → g' j = g0 j) → K g' u') :
    Q_X5_isSign (nI (b + L)) (59 : Int32) g u (fun r f1 v1 => (((r = 0 → (K f1 v1)) ∧ (¬ r = 0 → (Q_X5_readStepNext (nI (b + L)) ((3 : Int32) * (v1 5)) f1 v1 (fun r2 f2 v2 => (((¬ r2 = 0 → (∀ v3 : VV, v3 = fu v2 5 ((v2 5) + (1 : Int32)) → N f2 v3)) ∧ (r2 = 0 → (K f2 v2)))))))))) := by
  obtain ⟨hR, h5, hu, hg, hr, hs⟩ := h
  have hb := hR.1
  have hp := hR.2.1
  have hg2 : cs (g 2) b = c := by rw [hg 2 (by decide), hc]
  refine q5_isSign (by decide) hR (fun e hl u1 m1 => ⟨fun c => absurd c (by decide), fun _ => ?_⟩) (fun e => ⟨fun _ => ?_, fun c => absurd rfl c⟩)
  · have k1 : u1 5 = nI k := by rw [m1.2 5 (by decide)]; exact h5
    rw [hg2] at e
    rw [k1, show (3 : Int32) * nI k = nI (3 * k) from by rw [show (3 : Int32) = nI 3 from rfl, pk_mul]]
    refine q5_readStepNext hk (hR.mv m1 (by omega)) k1 ?_ ?_
    · rw [hg2]
      intro w1 w2 w3 hl3 g' u' hS hM
      refine ⟨fun _ u3 eu3 => hN g' u3 ⟨⟨hb, by omega, ?_⟩, ?_, fun i i4 i5 => ?_, fun j hj => ?_, fun i hi => ?_, fun i hi => ?_⟩, fun c => absurd c (by decide)⟩
      · rw [eu3, fu_ne (by decide), hM.1]; congr 1
      · rw [eu3, fu_eq, hM.2 5 (by decide), k1, nI_1]
      · rw [eu3, fu_ne i5, hM.2 i i4, m1.2 i i4, hu i i4 i5]
      · rw [hS.2.2.2.2 j hj, hg j hj]
      · rcases Nat.lt_succ_iff_lt_or_eq.mp hi with hi | rfl
        · obtain ⟨a1, a2, a3⟩ := hr i hi
          exact ⟨(hS.2.2.2.1 _ (by omega)).trans a1, (hS.2.2.2.1 _ (by omega)).trans a2, (hS.2.2.2.1 _ (by omega)).trans a3⟩
        · exact ⟨hS.1, hS.2.1, hS.2.2.1⟩
      · rcases Nat.lt_succ_iff_lt_or_eq.mp hi with hi | rfl
        · exact hs i hi
        · unfold sf; rw [if_neg (not_not_intro e), if_neg w1, if_neg w2]; exact if_neg w3
    · rw [hg2]
      intro s s3 hl3 a1 a2 a3 a4 a5 g' u' hgj hM
      refine ⟨fun c => absurd rfl c, fun _ => h0 (1 + s) g' u' ?_ (by omega) ⟨hb, by omega, ?_⟩ (fun i i4 i5 => by rw [hM.2 i i4, m1.2 i i4, hu i i4 i5]) (fun j hj => by rw [hgj j hj, hg j hj])⟩
      · unfold sf; rw [if_neg (not_not_intro e)]
        match s, s3 with
        | 0, _ => rw [if_pos (a1 rfl)]
        | 1, _ => rw [if_neg (a2 (by decide))]; exact if_pos (a3 rfl)
        | 2, _ => rw [if_neg (a2 (by decide))]; rw [if_neg (show ¬ srcV (pkv c L (1 + 4 * k + 2)) k = -1 from a4 (by decide))]; exact if_pos (a5 rfl)
      · rw [hM.1]; congr 1; omega
  · rw [hg2] at e
    exact h0 0 g u (by unfold sf; rw [if_pos e]) (by decide) hR hu hg
theorem q5_rs_loop {K0 K1 : FF → VV → Prop} (hc : c = cs (g0 2) b)
    (hB : ∀ k s g' u', SBAD c L k s → R5 b L (1 + 4 * k + s) u' → (∀ i, i ≠ 4 → i ≠ 5 → u' i = u0 i) → (∀ j, j ≠ 10 → g' j = g0 j) → K0 g' u')
    (hE : ∀ n g' u', SOK c L n → SS5 c b L n g0 g' u0 u' → K1 g' u') :
    ∀ (d k : Nat) (g : FF) (u : VV), k + d = 5 → SS5 c b L k g0 g u0 u → Q_X5_readAll_L22 (nI (b + L)) K0 K1 (d + 1) g u := by
  intro d
  induction d with
  | zero =>
    intro k g u hk h
    rw [Q_X5_readAll_L22]
    have hk : k = 5 := by omega
    subst hk
    rw [h.2.1]
    exact ⟨fun c => absurd c (by decide), fun _ => ⟨fun _ => hE 5 g u ⟨by decide, by decide, h.2.2.2.2.2, Or.inl rfl⟩ h, fun c => absurd (by decide) c⟩⟩
  | succ d ih =>
    intro k g u hk h
    rw [Q_X5_readAll_L22]
    have hR := h.1
    have hb := hR.1
    have hp := hR.2.1
    have hg2 : g 2 = g0 2 := h.2.2.2.1 2 (by decide)
    refine ⟨fun c0 => ?_, fun c0 => ?_⟩
    · rw [h.2.1] at c0
      have hk0 : k = 0 := (nI_eq (a := k) (b := 0) (by omega) (by omega)).mp c0
      exact rs5 hc (by omega) h (fun g' u' h' => ih (k + 1) g' u' (by omega) h') (fun s g' u' e1 e2 e3 e4 e5 => hB k s g' u' ⟨by omega, h.2.2.2.2.2, Or.inl hk0, e1, e2⟩ e3 e4 e5)
    · have hk0 : k ≠ 0 := fun z => c0 (by rw [h.2.1, z]; rfl)
      refine ⟨fun c1 => ?_, fun _ => ⟨fun c1 => ?_, fun c1 => ?_⟩⟩
      · rw [h.2.1] at c1
        exact absurd ((le_nI (a := 5) (by omega) (by omega)).mp c1) (by omega)
      · rw [hR.2.2, le_nI (by omega) (by omega)] at c1
        refine hE k g u ⟨by omega, by omega, h.2.2.2.2.2, Or.inr ?_⟩ h
        rw [pkv_end (by omega)]; decide
      · have c2 := c1
        rw [hR.2.2, le_nI (by omega) (by omega)] at c2
        have hl : 1 + 4 * k < L := by omega
        have hz : g 2 (u 4).toNatClampNeg = pkv c L (1 + 4 * k) := by rw [hR.2.2, nI_clamp (by omega), pkv_in hl, hc, hg2]; rfl
        rw [hz]
        refine ⟨by rw [hR.2.2]; exact vi_nI (by omega) (by omega), fun c3 => hE k g u ⟨by omega, by omega, h.2.2.2.2.2, Or.inr c3⟩ h, fun c3 => ?_⟩
        exact rs5 hc (by omega) h (fun g' u' h' => ih (k + 1) g' u' (by omega) h') (fun s g' u' e1 e2 e3 e4 e5 => hB k s g' u' ⟨by omega, h.2.2.2.2.2, Or.inr c3, e1, e2⟩ e3 e4 e5)
/-- j tests are read -/
def ST5 (c : Nat → Int32) (b L q j : Nat) (g0 g : FF) (u0 u : VV) : Prop := R5 b L (q + 5 * j) u ∧ u 6 = nI j ∧ (∀ i, i ≠ 4 → i ≠ 6 → u i = u0 i) ∧ (∀ j, j ≠ 11 → g j = g0 j) ∧ TRow c L q j (fun i => g 11 (4 * i)) (fun i => g 11 (4 * i + 1)) (fun i => g 11 (4 * i + 2)) (fun i => g 11 (4 * i + 3)) ∧ (∀ i, i < j → tf c L (q + 5 * i) = 5)
theorem tf_1 {p : Nat} (e : pkv c L p = 44) : tf c L p = 1 + tf1 c L (p + 1) := by
  unfold tf tf1
  rw [if_neg (not_not_intro e)]
  split
  · rfl
  · show (if digV 1 9 (pkv c L (p + 2)) = -1 then _ else _) = 1 + (if digV 1 9 (pkv c L (p + 2)) = -1 then _ else _)
    split
    · rfl
    · show (if digV 0 9 (pkv c L (p + 3)) = -1 then _ else _) = 1 + (if digV 0 9 (pkv c L (p + 3)) = -1 then _ else _)
      split
      · rfl
      · show (if digV 0 9 (pkv c L (p + 4)) = -1 then _ else _) = 1 + (if digV 0 9 (pkv c L (p + 4)) = -1 then _ else _)
        split <;> rfl
theorem ts5 {q j : Nat} {g : FF} {u : VV} {N K : FF → VV → Prop} (hc : c = cs (g0 2) b) (hj : j < 7) (h : ST5 c b L q j g0 g u0 u) (hN : ∀ g' u', ST5 c b L q (j + 1) g0 g' u0 u' → N g' u')
    (h0 : ∀ s g' u', tf c L (q + 5 * j) = s → s < 5 → (s = 0 → ¬ pkv c L (q + 5 * j) = 44) → (0 < s → pkv c L (q + 5 * j) = 44) → R5 b L (q + 5 * j + s) u' → (∀ i, i ≠ 4 → i ≠ 6 → u' i = u0 i) → (∀ j, j ≠ 11 → g' j = g0 j) → K g' u') :
    Q_X5_isSign (nI (b + L)) (44 : Int32) g u (fun r f1 v1 => (((r = 0 → (K f1 v1)) ∧ (¬ r = 0 → (Q_X5_readTestNext (nI (b + L)) ((4 : Int32) * (v1 6)) f1 v1 (fun r2 f2 v2 => (((¬ r2 = 0 → (∀ v3 : VV, v3 = fu v2 6 ((v2 6) + (1 : Int32)) → N f2 v3)) ∧ (r2 = 0 → (K f2 v2)))))))))) := by
  obtain ⟨hR, h6, hu, hg, hr, hs⟩ := h
  have hb := hR.1
  have hp := hR.2.1
  have hg2 : cs (g 2) b = c := by rw [hg 2 (by decide), hc]
  refine q5_isSign (by decide) hR (fun e hl u1 m1 => ⟨fun c => absurd c (by decide), fun _ => ?_⟩) (fun e => ⟨fun _ => ?_, fun c => absurd rfl c⟩)
  · have k1 : u1 6 = nI j := by rw [m1.2 6 (by decide)]; exact h6
    rw [hg2] at e
    rw [k1, show (4 : Int32) * nI j = nI (4 * j) from by rw [show (4 : Int32) = nI 4 from rfl, pk_mul]]
    refine q5_readTestNext hj (hR.mv m1 (by omega)) ?_ ?_
    · rw [hg2]
      intro w1 hl3 g' u' hS hM
      refine ⟨fun _ u3 eu3 => hN g' u3 ⟨⟨hb, by omega, ?_⟩, ?_, fun i i4 i5 => ?_, fun j hj => ?_, fun i hi => ?_, fun i hi => ?_⟩, fun c => absurd c (by decide)⟩
      · rw [eu3, fu_ne (by decide), hM.1]; congr 1
      · rw [eu3, fu_eq, hM.2 6 (by decide), k1, nI_1]
      · rw [eu3, fu_ne i5, hM.2 i i4, m1.2 i i4, hu i i4 i5]
      · rw [hS.2.2.2.2.2 j hj, hg j hj]
      · rcases Nat.lt_succ_iff_lt_or_eq.mp hi with hi | rfl
        · obtain ⟨a1, a2, a3, a4⟩ := hr i hi
          have hz := hS.2.2.2.2.1
          exact ⟨(hz _ (by omega)).trans a1, (hz _ (by omega)).trans a2, (hz _ (by omega)).trans a3, (hz _ (by omega)).trans a4⟩
        · exact ⟨hS.1, hS.2.1, hS.2.2.1, hS.2.2.2.1⟩
      · rcases Nat.lt_succ_iff_lt_or_eq.mp hi with hi | rfl
        · exact hs i hi
        · rw [tf_1 e, w1]
    · rw [hg2]
      intro s s3 hl3 a1 g' u' hgj hM
      refine ⟨fun c => absurd rfl c, fun _ => h0 (1 + s) g' u' (by rw [tf_1 e, a1]) (by omega) (fun z => by omega) (fun _ => e) ⟨hb, by omega, ?_⟩ (fun i i4 i5 => by rw [hM.2 i i4, m1.2 i i4, hu i i4 i5]) (fun j hj => by rw [hgj j hj, hg j hj])⟩
      rw [hM.1]; congr 1; omega
  · rw [hg2] at e
    exact h0 0 g u (by unfold tf; rw [if_pos e]) (by decide) (fun _ => e) (fun z => absurd z (by decide)) hR hu hg
theorem q5_rt_loop {q : Nat} {K0 K1 : FF → VV → Prop} (hc : c = cs (g0 2) b)
    (hB : ∀ j s g' u', TBAD c L q j s → R5 b L (q + 5 * j + s) u' → (∀ i, i ≠ 4 → i ≠ 6 → u' i = u0 i) → (∀ j, j ≠ 11 → g' j = g0 j) → K0 g' u')
    (hC : ∀ t g' u', TOK c L q t → q + 5 * t < L → R5 b L (q + 5 * t) u' → (∀ i, i ≠ 4 → i ≠ 6 → u' i = u0 i) → (∀ j, j ≠ 11 → g' j = g0 j) → K0 g' u')
    (hE : ∀ t g' u', TOK c L q t → ST5 c b L q t g0 g' u0 u' → K1 g' u') :
    ∀ (d j : Nat) (g : FF) (u : VV), j + d = 7 → ST5 c b L q j g0 g u0 u → Q_X5_readAll_L98 (nI (b + L)) K0 K1 (d + 1) g u := by
  intro d
  induction d with
  | zero =>
    intro k g u hk h
    rw [Q_X5_readAll_L98]
    have hk : k = 7 := by omega
    subst hk
    rw [h.2.1]
    exact ⟨fun c => absurd c (by decide), fun _ => ⟨fun _ => hE 7 g u ⟨by decide, by decide, h.2.2.2.2.2, Or.inl rfl⟩ h, fun c => absurd (by decide) c⟩⟩
  | succ d ih =>
    intro k g u hk h
    rw [Q_X5_readAll_L98]
    have hR := h.1
    have hb := hR.1
    have hp := hR.2.1
    have hg2 : g 2 = g0 2 := h.2.2.2.1 2 (by decide)
    refine ⟨fun c0 => ?_, fun c0 => ?_⟩
    · rw [h.2.1] at c0
      have hk0 : k = 0 := (nI_eq (a := k) (b := 0) (by omega) (by omega)).mp c0
      exact ts5 hc (by omega) h (fun g' u' h' => ih (k + 1) g' u' (by omega) h') (fun s g' u' e1 e2 _ _ e3 e4 e5 => hB k s g' u' ⟨by omega, h.2.2.2.2.2, Or.inl hk0, e1, e2⟩ e3 e4 e5)
    · have hk0 : k ≠ 0 := fun z => c0 (by rw [h.2.1, z]; rfl)
      refine ⟨fun c1 => ?_, fun _ => ⟨fun c1 => ?_, fun c1 => ?_⟩⟩
      · rw [h.2.1] at c1
        exact absurd ((le_nI (a := 7) (by omega) (by omega)).mp c1) (by omega)
      · rw [hR.2.2, le_nI (by omega) (by omega)] at c1
        refine hE k g u ⟨by omega, by omega, h.2.2.2.2.2, Or.inr ?_⟩ h
        rw [pkv_end (by omega)]; decide
      · rw [hR.2.2, le_nI (by omega) (by omega)] at c1
        refine ts5 hc (by omega) h (fun g' u' h' => ih (k + 1) g' u' (by omega) h') (fun s g' u' e1 e2 e6 e7 e3 e4 e5 => ?_)
        rcases Nat.eq_zero_or_pos s with rfl | hs
        · exact hC k g' u' ⟨by omega, by omega, h.2.2.2.2.2, Or.inr (e6 rfl)⟩ (by omega) e3 e4 e5
        · exact hB k s g' u' ⟨by omega, h.2.2.2.2.2, Or.inr (e7 hs), e1, e2⟩ e3 e4 e5
end T7
theorem q5_readAll {b L : Nat} {c : Nat → Int32} {g : FF} {u : VV} {posf : Int32 → FF → VV → Prop} (hc : c = cs (g 2) b) (hb : b + L ≤ 240) (hu4 : u 4 = nI b)
    (h1 : ∀ n t g' u', POK c L n t → SRow c L n (fun i => g' 10 (3 * i)) (fun i => g' 10 (3 * i + 1)) (fun i => g' 10 (3 * i + 2)) → TRow c L (1 + 4 * n) t (fun i => g' 11 (4 * i)) (fun i => g' 11 (4 * i + 1)) (fun i => g' 11 (4 * i + 2)) (fun i => g' 11 (4 * i + 3)) → u' 5 = nI n → u' 6 = nI t → (∀ i, i ≠ 4 → i ≠ 5 → i ≠ 6 → u' i = u i) → (∀ j, j ≠ 10 → j ≠ 11 → g' j = g j) → posf 1 g' u')
    (h0 : ∀ pl g' u', PBAD c L pl → pl ≤ L → u' 4 = nI (b + pl) → (∀ i, i ≠ 4 → i ≠ 5 → i ≠ 6 → u' i = u i) → (∀ j, j ≠ 10 → j ≠ 11 → g' j = g j) → posf 0 g' u') :
    Q_X5_readAll (nI (b + L)) g u posf := by
  unfold Q_X5_readAll
  intro v1 ev1 v2 ev2
  have f2 : ∀ i, i ≠ 4 → i ≠ 5 → i ≠ 6 → v2 i = u i := fun i _ a b => by rw [ev2, fu_ne b, ev1, fu_ne a]
  have R0 : R5 b L 0 v2 := ⟨hb, by omega, by rw [ev2, fu_ne (by decide), ev1, fu_ne (by decide), hu4]; rfl⟩
  refine q5_isSign (by decide) R0 (fun e hl u1 m1 => ⟨fun _ => ⟨6, ?_⟩, fun c => absurd c (by decide)⟩) (fun e => ⟨fun c => absurd rfl c, fun _ => h0 0 g v2 (Or.inl ⟨by rw [hc]; exact e, rfl⟩) (by omega) R0.2.2 f2 (fun _ _ _ => rfl)⟩)
  have e : pkv c L 0 = 109 := by rw [hc]; exact e
  have u5 : u1 5 = nI 0 := by rw [m1.2 5 (by decide), ev2, fu_ne (by decide), ev1, fu_eq]; rfl
  have u6 : u1 6 = 0 := by rw [m1.2 6 (by decide), ev2, fu_eq]
  have S0 : SS5 c b L 0 g g u1 u1 := ⟨R0.mv m1 (by omega), u5, fun _ _ _ => rfl, fun _ _ => rfl, fun i hi => absurd hi (by omega), fun i hi => absurd hi (by omega)⟩
  refine q5_rs_loop hc (fun k s g' u' hB hR hu hg => h0 (1 + 4 * k + s) g' u' (Or.inr (Or.inl ⟨e, k, s, hB, rfl⟩)) hR.2.1 hR.2.2 (fun i a b c => by rw [hu i a b, m1.2 i a, f2 i a b c]) (fun j a b => hg j a)) ?_ 5 0 g u1 (by omega) S0
  intro n g1 u1' hS h
  have T0 : ST5 c b L (1 + 4 * n) 0 g1 g1 u1' u1' := ⟨h.1, by rw [h.2.2.1 6 (by decide) (by decide), u6]; rfl, fun _ _ _ => rfl, fun _ _ => rfl, fun i hi => absurd hi (by omega), fun i hi => absurd hi (by omega)⟩
  have hc1 : c = cs (g1 2) b := by rw [hc, h.2.2.2.1 2 (by decide)]
  have fu1 : ∀ i, i ≠ 4 → i ≠ 5 → i ≠ 6 → u1' i = u i := fun i a b c => by rw [h.2.2.1 i a b, m1.2 i a, f2 i a b c]
  refine ⟨8, q5_rt_loop hc1 (fun j s g' u' hB hR hu hg => h0 (1 + 4 * n + 5 * j + s) g' u' (Or.inr (Or.inr (Or.inl ⟨e, n, hS, j, s, hB, rfl⟩))) hR.2.1 hR.2.2 (fun i a b c => by rw [hu i a c, fu1 i a b c]) (fun j a b => by rw [hg j b, h.2.2.2.1 j a])) (fun t g' u' hT hl hR hu hg => h0 (1 + 4 * n + 5 * t) g' u' (Or.inr (Or.inr (Or.inr ⟨e, n, t, hS, hT, rfl, by omega⟩))) hR.2.1 hR.2.2 (fun i a b c => by rw [hu i a c, fu1 i a b c]) (fun j a b => by rw [hg j b, h.2.2.2.1 j a])) ?_ 7 0 g1 u1' (by omega) T0⟩
  intro t g' u' hT h'
  have fu2 : ∀ i, i ≠ 4 → i ≠ 5 → i ≠ 6 → u' i = u i := fun i a b c => by rw [h'.2.2.1 i a c, fu1 i a b c]
  have fg2 : ∀ j, j ≠ 10 → j ≠ 11 → g' j = g j := fun j a b => by rw [h'.2.2.2.1 j b, h.2.2.2.1 j a]
  have hR := h'.1
  have hp := hR.2.1
  have q1 : u' 4 = nI (b + L) ↔ 1 + 4 * n + 5 * t = L := by
    rw [hR.2.2, nI_eq (by omega) (by omega)]; omega
  refine ⟨fun c => h0 (1 + 4 * n + 5 * t) g' u' (Or.inr (Or.inr (Or.inr ⟨e, n, t, hS, hT, rfl, fun z => c (q1.mpr z)⟩))) hp hR.2.2 fu2 fg2, fun c => h1 n t g' u' ⟨e, hS, hT, q1.mp c⟩ ?_ h'.2.2.2.2.1 ?_ h'.2.1 fu2 fg2⟩
  · rw [h'.2.2.2.1 10 (by decide)]; exact h.2.2.2.2.1
  · rw [h'.2.2.1 5 (by decide) (by decide)]; exact h.2.1
/-! ===== the reference: choices, least terms, readings ===== -/
section C5
variable {n t : Nat} {g : FF} {u : VV} {posf : Int32 → FF → VV → Prop} {post : Int32 → Prop}
def oI : Option Nat → Int32
  | none => -9
  | some a => nI a
/-- the best of the first k tests for what is left -/
def pk5 (B W : Nat → Int32) (m : Nat) (mn left : Int32) : Nat → Option Nat
  | 0 => none
  | j + 1 => if kB B m j &&& left = 0 then pk5 B W m mn left j else match pk5 B W m mn left j with
    | none => some j
    | some a => if btr5 B W m mn j a left = true then some j else some a
theorem pk5_lt {B W : Nat → Int32} {m : Nat} {mn left : Int32} : ∀ {k a : Nat}, pk5 B W m mn left k = some a → a < k ∧ ¬ kB B m a &&& left = 0
  | 0, a, h => by simp [pk5] at h
  | k + 1, a, h => by
    rw [pk5] at h
    split at h
    · have := pk5_lt h
      exact ⟨by omega, this.2⟩
    · rename_i hb
      split at h
      · cases h; exact ⟨by omega, hb⟩
      · rename_i a' e
        split at h
        · cases h; exact ⟨by omega, hb⟩
        · cases h
          have := pk5_lt e
          exact ⟨by omega, this.2⟩
theorem pk5_some {B W : Nat → Int32} {m : Nat} {mn left : Int32} {j : Nat} (hj : ¬ kB B m j &&& left = 0) : ∀ {k : Nat}, j < k → ∃ a, pk5 B W m mn left k = some a
  | 0, h => absurd h (by omega)
  | k + 1, h => by
    rw [pk5]
    split
    · rename_i hb
      rcases Nat.lt_succ_iff_lt_or_eq.mp h with h | rfl
      · exact pk5_some hj h
      · exact absurd hb hj
    · split
      · exact ⟨_, rfl⟩
      · split <;> exact ⟨_, rfl⟩
theorem oI_9 {a : Nat} (ha : a < 7) : ¬ oI (some a) = -9 := by
  have := (show ∀ a, a < 7 → ¬ nI a = -9 by decide +kernel) a ha
  exact this
theorem q5_pick_loop {x2 mn left : Int32} {K : Int32 → Int32 → FF → VV → Prop} (hP : PI n t (sb g 3) (sb u 2)) (hK : ∀ x5, K (oI (pk5 (g 13) (fun j => wgt (g 6 j) (g 7 j)) (4 * n) mn left t)) x5 g u) :
    ∀ (d k : Nat), k + d = t → Q_X5_findChoices_L24 mn x2 left K (d + 1) (oI (pk5 (g 13) (fun j => wgt (g 6 j) (g 7 j)) (4 * n) mn left k)) (nI k) g u := by
  have ht := hP.2.1
  have e : u 3 = nI t := hP.2.2.2.1
  intro d
  induction d with
  | zero =>
    intro k hk
    rw [Q_X5_findChoices_L24, e, show k = t by omega]
    exact ⟨fun _ => hK _, fun c => absurd (Int32.le_refl _) c⟩
  | succ d ih =>
    intro k hk
    rw [Q_X5_findChoices_L24, e]
    have := ih (k + 1) (by omega)
    rw [pk5] at this
    refine ⟨fun c => absurd ((le_nI (by omega) (by omega)).mp c) (by omega), fun _ => q5_killedBy hP (by omega) ⟨fun c x1 e1 => ?_, fun c => ?_⟩⟩
    · rw [e1, nI_1]; rw [if_pos c] at this; exact this
    · rw [if_neg c] at this
      match hm : pk5 (g 13) (fun j => wgt (g 6 j) (g 7 j)) (4 * n) mn left k with
      | none =>
        rw [hm] at this
        exact ⟨fun _ x1 e1 => by rw [e1, nI_1]; exact this, fun c => absurd rfl c⟩
      | some a =>
        rw [hm] at this
        have ha := (pk5_lt hm).1
        refine ⟨fun c => absurd c (oI_9 (by omega)), fun _ => q5_isBetter hP (by omega) (by omega) (fun hb => ⟨fun c => absurd c (by decide), fun _ x1 e1 => ?_⟩) (fun hb => ⟨fun _ x1 e1 => ?_, fun c => absurd rfl c⟩)⟩
        · rw [e1, nI_1]; simp only [hb] at this; exact this
        · rw [e1, nI_1]; simp only [hb] at this; exact this
/-- c choices are made, and stand in C -/
def Ch5 (B W : Nat → Int32) (m t : Nat) (mn : Int32) (C : Nat → Int32) (c : Nat) : Prop := ∀ i, i < c → ¬ lft B (setC C i) m = 0 ∧ ∃ a, a < t ∧ pk5 B W m mn (lft B (setC C i) m) t = some a ∧ C i = nI a
theorem setC_cong {C D : Nat → Int32} : ∀ {k : Nat}, (∀ i, i < k → C i = D i) → setC C k = setC D k
  | 0, _ => rfl
  | k + 1, h => by rw [setC, setC, setC_cong (fun i hi => h i (by omega)), h k (by omega)]
theorem bt_left {B : Nat → Int32} {S : Int32} {m q : Nat} (hm : m ≤ 32) (hq : q < 32) : bt (lft B S m) q = (decide (q < m) && decide (¬ B q = 0 ∧ (B q &&& S) = 0)) := by unfold lft; rw [bt_bs _ m hm q hq]
theorem not0 {x : Int32} (h : ¬ x = 0) : ∃ i, i < 32 ∧ bt x i = true := by
  apply Classical.byContradiction
  intro c
  apply h
  apply b_ext
  intro i hi
  rw [b_0]
  cases hb : bt x i
  · rfl
  · exact absurd ⟨i, hi, hb⟩ c
theorem is0 {x : Int32} {i : Nat} (h : bt x i = true) : ¬ x = 0 := fun e => by rw [e, b_0] at h; exact absurd h (by decide)
/-- what a choice adds is new -/
theorem pick_new {B W : Nat → Int32} {m t : Nat} {mn S : Int32} (hm : m ≤ 20) (ht : t ≤ 7) (hB : ∀ q, q < m → ∀ i, bt (B q) i = true → i < t) (hl : ¬ lft B S m = 0) : ∃ a, a < t ∧ pk5 B W m mn (lft B S m) t = some a ∧ bt S a = false := by
  obtain ⟨q, hq, e⟩ := not0 hl
  rw [bt_left (by omega) hq, Bool.and_eq_true, decide_eq_true_iff, decide_eq_true_iff] at e
  obtain ⟨hqm, hq0, hqS⟩ := e
  obtain ⟨i, hi, ei⟩ := not0 hq0
  have hit := hB q hqm i ei
  have h1 : ¬ kB B m i &&& lft B S m = 0 := is0 (i := q) (by
    rw [b_and, bt_left (by omega) hq]; unfold kB; rw [bt_bs _ m (by omega) q hq, decide_eq_true hqm, decide_eq_true (show ¬ B q = 0 ∧ (B q &&& S) = 0 from ⟨hq0, hqS⟩), ei]; rfl)
  obtain ⟨a, ha⟩ := pk5_some (W := W) (mn := mn) h1 hit
  obtain ⟨hat, hk⟩ := pk5_lt ha
  refine ⟨a, hat, ha, ?_⟩
  obtain ⟨q2, hq2, e2⟩ := not0 hk
  rw [b_and, bt_left (by omega) hq2, Bool.and_eq_true, Bool.and_eq_true, decide_eq_true_iff, decide_eq_true_iff] at e2
  unfold kB at e2
  rw [bt_bs _ m (by omega) q2 hq2, Bool.and_eq_true, decide_eq_true_iff] at e2
  cases hb : bt S a with
  | false => rfl
  | true => exact absurd e2.2.2.2 (is0 (i := a) (by rw [b_and, e2.1.2, hb]; rfl))
theorem q5_fch_loop {B : Nat → Int32} {mn : Int32} {K : Int32 → Int32 → FF → VV → Prop} {g0 : FF} {u0 : VV} (hP : PI n t (sb g0 3) (sb u0 2)) (h13 : g0 13 = B) (hB : ∀ q, q < 4 * n → ∀ i, bt (B q) i = true → i < t)
    (hK : ∀ c (g : FF) (u : VV), c ≤ 7 → lft B (setC (g 15) c) (4 * n) = 0 → Ch5 B (fun j => wgt (g0 6 j) (g0 7 j)) (4 * n) t mn (g 15) c → u 7 = nI c → (∀ j, j ≠ 15 → g j = g0 j) → (∀ i, i ≠ 7 → u i = u0 i) → K (setC (g 15) c) 0 g u) :
    ∀ (d c : Nat) (g : FF) (u : VV), c + d = t → fb_ct (fun i => bt (setC (g 15) c) i) t = c → Ch5 B (fun j => wgt (g0 6 j) (g0 7 j)) (4 * n) t mn (g 15) c → u 7 = nI c → (∀ j, j ≠ 15 → g j = g0 j) → (∀ i, i ≠ 7 → u i = u0 i) → Q_X5_findChoices_L13 mn K (d + 1) (setC (g 15) c) (lft B (setC (g 15) c) (4 * n)) g u := by
  have hn := hP.1
  have ht := hP.2.1
  have stop : ∀ (d c : Nat) (g : FF) (u : VV), c ≤ 7 → lft B (setC (g 15) c) (4 * n) = 0 → Ch5 B (fun j => wgt (g0 6 j) (g0 7 j)) (4 * n) t mn (g 15) c → u 7 = nI c → (∀ j, j ≠ 15 → g j = g0 j) → (∀ i, i ≠ 7 → u i = u0 i) → Q_X5_findChoices_L13 mn K (d + 1) (setC (g 15) c) (lft B (setC (g 15) c) (4 * n)) g u := by
    intro d c g u hc hl hC h7 hg hu
    rw [Q_X5_findChoices_L13, hl]
    exact ⟨fun _ => hK c g u hc hl hC h7 hg hu, fun z => absurd rfl z⟩
  intro d
  induction d with
  | zero =>
    intro c g u hc hct hC h7 hg hu
    refine stop 0 c g u (by omega) ?_ hC h7 hg hu
    apply Classical.byContradiction
    intro hl
    obtain ⟨a, hat, ha, hb⟩ := pick_new (W := fun j => wgt (g0 6 j) (g0 7 j)) (mn := mn) (by omega) ht hB hl
    have := fb_ct_all.mp (hct.trans (show c = t by omega)) a hat
    rw [hb] at this; exact absurd this (by decide)
  | succ d ih =>
    intro c g u hc hct hC h7 hg hu
    by_cases hl : lft B (setC (g 15) c) (4 * n) = 0
    · exact stop _ c g u (by omega) hl hC h7 hg hu
    · rw [Q_X5_findChoices_L13]
      obtain ⟨a, hat, ha, hb⟩ := pick_new (W := fun j => wgt (g0 6 j) (g0 7 j)) (mn := mn) (by omega) ht hB hl
      have hPg : PI n t (sb g 3) (sb u 2) := hP.rows (fun j hj => hg (3 + j) (by omega)) (hu 2 (by decide)) (hu 3 (by decide))
      have e13 : g 13 = B := (hg 13 (by decide)).trans h13
      refine ⟨fun z => absurd z hl, fun _ => ⟨t + 1, q5_pick_loop hPg ?_ t 0 (by omega)⟩⟩
      intro x5 x19 e19
      rw [e13, hg 6 (by decide), hg 7 (by decide), ha] at e19 ⊢
      rw [h7]
      refine ⟨vi_nI (by omega) (by omega), fun g1 eg1 u1 eu1 => ?_⟩
      have r15 : g1 15 = upd (g 15) c (nI a) := by
        rw [eg1, fu_eq]; show upd _ (nI c).toNatClampNeg _ = _; rw [nI_clamp (by omega)]; rfl
      have rg : ∀ j, j ≠ 15 → g1 j = g0 j := fun j hj => by rw [eg1, fu_ne hj, hg j hj]
      have r7 : u1 7 = nI (c + 1) := by rw [eu1, fu_eq, nI_1]
      have ru : ∀ i, i ≠ 7 → u1 i = u0 i := fun i hi => by rw [eu1, fu_ne hi, hu i hi]
      have hsc : ∀ i, i ≤ c → setC (g1 15) i = setC (g 15) i := fun i hi => setC_cong (fun k hk => by rw [r15, upd_ne (by omega)])
      have eS : x19 = setC (g1 15) (c + 1) := by rw [e19, setC, hsc c (Nat.le_refl _), r15, upd_eq]; rfl
      have hPg1 : PI n t (sb g1 3) (sb u1 2) := hP.rows (fun j hj => rg (3 + j) (by omega)) (ru 2 (by decide)) (ru 3 (by decide))
      refine q5_leftBy hPg1 ?_
      rw [eS, rg 13 (by decide), h13]
      refine ih (c + 1) g1 u1 (by omega) ?_ ?_ r7 rg ru
      · have e1 : ∀ i, i < t → bt (setC (g1 15) (c + 1)) i = (fun k => if k = a then true else bt (setC (g 15) c) k) i := by
          intro i hi
          show _ = if i = a then true else bt (setC (g 15) c) i
          rw [setC, hsc c (Nat.le_refl _), r15, upd_eq, b_or, b_one (by omega) (by omega)]
          by_cases hia : i = a
          · rw [if_pos hia, decide_eq_true hia, Bool.or_true]
          · rw [if_neg hia, decide_eq_false hia, Bool.or_false]
        rw [fb_ct_cong e1]
        have := fb_ct_upd (fun i => bt (setC (g 15) c) i) true hat
        simp only [hb, if_true, Bool.false_eq_true, if_false] at this
        omega
      · intro i hi
        rcases Nat.lt_succ_iff_lt_or_eq.mp hi with hi | rfl
        · have := hC i hi
          rw [hsc i (by omega), r15, upd_ne (by omega)]
          exact this
        · rw [hsc i (Nat.le_refl _), r15, upd_eq]
          exact ⟨hl, a, hat, ha, rfl⟩
theorem q5_findChoices {B : Nat → Int32} {mn : Int32} (hP : PI n t (sb g 3) (sb u 2)) (h13 : g 13 = B) (hB : ∀ q, q < 4 * n → ∀ i, bt (B q) i = true → i < t)
    (hK : ∀ c (g' : FF) (u' : VV), c ≤ 7 → lft B (setC (g' 15) c) (4 * n) = 0 → Ch5 B (fun j => wgt (g 6 j) (g 7 j)) (4 * n) t mn (g' 15) c → u' 7 = nI c → (∀ j, j ≠ 15 → g' j = g j) → (∀ i, i ≠ 7 → u' i = u i) → posf (setC (g' 15) c) g' u') : Q_X5_findChoices mn g u posf := by
  unfold Q_X5_findChoices
  intro v1 ev1
  have ru : ∀ i, i ≠ 7 → v1 i = u i := fun i hi => by rw [ev1, fu_ne hi]
  have hP1 : PI n t (sb g 3) (sb v1 2) := hP.rows (fun _ _ => rfl) (ru 2 (by decide)) (ru 3 (by decide))
  refine q5_leftBy hP1 ⟨t + 1, ?_⟩
  rw [h13]
  refine q5_fch_loop (u0 := v1) hP1 h13 hB (fun c g' u' a1 a2 a3 a4 a5 a6 => hK c g' u' a1 a2 a3 a4 a5 (fun i hi => (a6 i hi).trans (ru i hi))) t 0 g v1 (by omega) ?_ (fun i hi => absurd hi (by omega)) (by rw [ev1, fu_eq]; rfl) (fun _ _ => rfl) (fun _ _ => rfl)
  rw [fb_ct_zero]
  intro k hk
  exact b_0 k
end C5
def lI (n : Nat) : Int64 := Int64.ofNat n
theorem lI_toInt {n : Nat} (h : n < 2 ^ 31) : (lI n).toInt = n := lg_ofNat_toInt (by omega)
theorem lI_eq {a b : Nat} (ha : a < 2 ^ 31) (hb : b < 2 ^ 31) : lI a = lI b ↔ a = b := ⟨fun h => by
  have := congrArg Int64.toInt h
  rw [lI_toInt ha, lI_toInt hb] at this
  omega, fun h => h ▸ rfl⟩
theorem lI_div {a d : Nat} (ha : a < 2 ^ 31) (h0 : 0 < d) (hd : d < 2 ^ 31) : lI a / lI d = lI (a / d) := by
  apply Int64.toInt_inj.mp
  rw [lg_ldiv_nonneg (by rw [lI_toInt ha]; omega) (by rw [lI_toInt hd]; omega), lI_toInt ha, lI_toInt hd, lI_toInt (Nat.lt_of_le_of_lt (Nat.div_le_self _ _) ha)]
  rfl
theorem lI_mod {a d : Nat} (ha : a < 2 ^ 31) (h0 : 0 < d) (hd : d < 2 ^ 31) : lI a - lI a / lI d * lI d = lI (a % d) := by
  have h1 : a / d * d ≤ a := Nat.div_mul_le_self a d
  have h2 : lI (a / d) * lI d = lI (a / d * d) := (Int64.ofNat_mul _ _).symm
  have h3 : lI a - lI (a / d * d) = lI (a - a / d * d) := (Int64.ofNat_sub _ _ h1).symm
  rw [lI_div ha h0 hd, h2, h3]
  congr 1
  have := Nat.div_add_mod a d
  rw [Nat.mul_comm] at this
  omega
theorem i2l {k : Nat} (h : k < 2 ^ 31) : (nI k).toInt64 = lI k := by
  apply Int64.toInt_inj.mp
  rw [Int32.toInt_toInt64, lI_toInt h, nI_toInt h]
theorem q5_lt_loop {y0 y2 : Int64} {x4 : Int32} {K : Int64 → Int64 → Prop} : ∀ (d a b : Nat), b ≤ d → a < 2 ^ 31 → b < 2 ^ 31 → K (lI (Nat.gcd b a)) 0 → Q_X5_inLeastTerms_L6 y0 y2 x4 K (d + 1) (lI a) (lI b) := by
  intro d
  induction d with
  | zero =>
    intro a b hb ha hb2 h
    have : b = 0 := by omega
    subst this
    rw [Q_X5_inLeastTerms_L6]
    rw [Nat.gcd_zero_left] at h
    exact ⟨fun _ => h, fun c => absurd ((lg_cmp_eq _ _).mpr rfl) c⟩
  | succ d ih =>
    intro a b hb ha hb2 h
    rw [Q_X5_inLeastTerms_L6]
    rcases Nat.eq_zero_or_pos b with rfl | hb0
    · rw [Nat.gcd_zero_left] at h
      exact ⟨fun _ => h, fun c => absurd ((lg_cmp_eq _ _).mpr rfl) c⟩
    · have hn : ¬ lI b = 0 := fun e => by
        have := (lI_eq (b := 0) hb2 (by omega)).mp e
        omega
      refine ⟨fun c => absurd ((lg_cmp_eq _ _).mp c) hn, fun _ => ⟨hn, fun x ex => ?_⟩⟩
      rw [lI_mod ha hb0 hb2] at ex
      rw [ex]
      have := Nat.mod_lt a hb0
      refine ih b (a % b) (by omega) hb2 (by omega) ?_
      rw [Nat.gcd_rec] at h
      exact h
theorem q5_inLeastTerms {a b : Nat} {p : Int32} {post : Int64 → Prop} (ha : a < 2 ^ 31) (hb : b < 2 ^ 31) (h0 : 0 < b) (h : post (if p = 0 then lI (a / Nat.gcd b a) else lI (b / Nat.gcd b a))) : Q_X5_inLeastTerms (lI a) (lI b) p post := by
  have hg : 0 < Nat.gcd b a := Nat.gcd_pos_of_pos_left _ h0
  have hl : Nat.gcd b a ≤ b := Nat.gcd_le_left _ h0
  have hn : ¬ lI (Nat.gcd b a) = 0 := fun e => by
    have := (lI_eq (b := 0) (by omega) (by omega)).mp e
    omega
  refine ⟨b + 1, q5_lt_loop b a b (Nat.le_refl _) ha hb ⟨fun c => ⟨hn, ?_⟩, fun c => ⟨hn, ?_⟩⟩⟩
  · rw [lI_div hb hg (by omega)]; rw [if_neg c] at h; exact h
  · rw [lI_div ha hg (by omega)]; rw [if_pos c] at h; exact h
section A5
variable {n t : Nat} {g : FF} {u : VV} {posf : Int32 → FF → VV → Prop} {post : Int32 → Prop}
def allEq (r : Nat → Int32) (w : Int32) : Nat → Bool
  | 0 => true
  | k + 1 => allEq r w k && decide (r k = w)
/-- the weight of the reference's cover -/
def cw5 (g : FF) (n t : Nat) : Int32 := sumW (fun j => wgt (g 6 j) (g 7 j)) (cov (kls g n t) (fun j => wgt (g 6 j) (g 7 j)) (4 * n) t (2 ^ t)) t
theorem lft_cong {B B' : Nat → Int32} {S : Int32} {m : Nat} (h : ∀ q, q < m → B q = B' q) : lft B S m = lft B' S m := bs_cong (fun q hq => by rw [h q hq])
theorem cov_cong {B B' W : Nat → Int32} {m t : Nat} (h : ∀ q, q < m → B q = B' q) : ∀ k, cov B W m t k = cov B' W m t k
  | 0 => rfl
  | k + 1 => by rw [cov, cov, cov_cong h k, lft_cong h]
theorem q5_as_loop {w : Int32} {c : Nat} {K : Int32 → Int32 → FF → VV → Prop} (hc : c ≤ 8) (h8 : u 8 = nI c) (hK : ∀ x3, K (b2 (allEq (g 16) w c)) x3 g u) :
    ∀ (d k : Nat), k + d = c → Q_X5_areSo_L26 w K (d + 1) (b2 (allEq (g 16) w k)) (nI k) g u := by
  intro d
  induction d with
  | zero =>
    intro k hk
    rw [Q_X5_areSo_L26, h8, show k = c by omega]
    exact ⟨fun _ => hK _, fun c => absurd (Int32.le_refl _) c⟩
  | succ d ih =>
    intro k hk
    rw [Q_X5_areSo_L26, h8]
    have := ih (k + 1) (by omega)
    rw [allEq] at this
    refine ⟨fun c => absurd ((le_nI (by omega) (by omega)).mp c) (by omega), fun _ => ?_⟩
    cases ha : allEq (g 16) w k with
    | false =>
      rw [ha, Bool.false_and] at this
      exact ⟨fun _ x1 e1 => by rw [e1, nI_1]; exact this, fun c => absurd rfl c⟩
    | true =>
      rw [ha, Bool.true_and] at this
      rw [nI_clamp (by omega)]
      refine ⟨fun c => absurd c (by decide), fun _ => ⟨vi_nI (by omega) (by omega), fun c x1 e1 => ?_, fun c x1 e1 => ?_⟩⟩
      · rw [e1, nI_1]; rw [decide_eq_false c] at this; exact this
      · rw [e1, nI_1]; rw [decide_eq_true c] at this; exact this
/-- whether all readings are the cover's weight -/
def so5 (g : FF) (n t c : Nat) : Bool := decide (c = 0) || allEq (g 16) (cw5 g n t) c
theorem q5_areSo {c : Nat} (hP : PI n t (sb g 3) (sb u 2)) (hc : c ≤ 8) (h8 : u 8 = nI c) (h : ∀ g', S123 g g' → posf (b2 (so5 g n t c)) g' u) : Q_X5_areSo g u posf := by
  unfold Q_X5_areSo
  unfold so5 at h
  refine ⟨fun c0 => q5_findKillers hP (fun g' hs hB => ?_), fun c0 => ?_⟩
  · have hc0 : c ≠ 0 := fun z => c0 (by rw [h8, z]; rfl)
    have hP' : PI n t (sb g' 3) (sb u 2) := hP.rows (fun j hj => hs.pv j (by omega)) rfl rfl
    refine q5_findCover hP' (q5_weightOfSet hP' ⟨c + 1, q5_as_loop hc h8 (fun _ => ⟨b2_01 _, ?_⟩) c 0 (by omega)⟩)
    have := h g' hs
    rw [decide_eq_false hc0, Bool.false_or] at this
    rw [hs 6 (by decide) (by decide), hs 7 (by decide) (by decide), hs 16 (by decide) (by decide), cov_cong hB]
    exact this
  · rw [h8] at c0
    have hc0 : c = 0 := (nI_eq (a := c) (b := 0) (by omega) (by omega)).mp c0
    have := h g S123.rf
    rw [decide_eq_true hc0, Bool.true_or] at this
    exact this
end A5
theorem PI.rows2 {n t : Nat} {f f' : FF} {v v' : VV} (h : PI n t f v) (h1 : f' 1 = f 1) (h2 : f' 2 = f 2) (e0 : v' 0 = v 0) (e1 : v' 1 = v 1) : PI n t f' v' := by
  obtain ⟨a1, a2, a3, a4, a5⟩ := h
  refine ⟨a1, a2, e0.trans a3, e1.trans a4, fun k hk => ?_⟩
  rw [h1, h2]
  exact a5 k hk
theorem upd_upd (f : Nat → Int32) (j : Nat) (x y : Int32) : upd (upd f j x) j y = upd f j y := by
  funext i
  by_cases h : i = j
  · rw [h, upd_eq, upd_eq]
  · rw [upd_ne h, upd_ne h, upd_ne h]
theorem upd_id (f : Nat → Int32) (j : Nat) : upd f j (f j) = f := by
  funext i
  by_cases h : i = j
  · rw [h, upd_eq]
  · rw [upd_ne h]
theorem kls_cong {g g' : FF} (h : ∀ r, r ≠ 12 → r ≠ 13 → g r = g' r) (n t q : Nat) : kls g n t q = kls g' n t q := by
  unfold kls
  exact bs_cong (fun k _ => kt_rows (fun j hj => h (3 + j) (by omega) (by omega)) n k q)
theorem cw5_cong {g g' : FF} (h : ∀ r, r ≠ 12 → r ≠ 13 → g r = g' r) (n t : Nat) : cw5 g n t = cw5 g' n t := by
  unfold cw5
  rw [h 6 (by decide) (by decide), h 7 (by decide) (by decide), cov_cong (fun q _ => kls_cong h n t q)]
theorem so5_cong {g g' : FF} (h : ∀ r, r ≠ 12 → r ≠ 13 → g r = g' r) {n t c : Nat} : so5 g n t c = so5 g' n t c := by
  unfold so5
  rw [cw5_cong h, h 16 (by decide) (by decide)]
section K5
variable {n t : Nat} {g : FF} {u : VV} {posf : Int32 → FF → VV → Prop} {post : Int32 → Prop}
theorem q5_kinds_loop {j c : Nat} {z : Int32} {K : Int32 → Int32 → FF → VV → Prop} {g0 : FF} (hj : j < 7) (hP : PI n t (sb g0 3) (sb u 2)) (hc : c ≤ 8) (h8 : u 8 = nI c)
    (hK : ∀ x4 (g : FF), (∀ r, r ≠ 6 → r ≠ 12 → r ≠ 13 → g r = g0 r) → (∃ x, g 6 = upd (g0 6) j x) → K (bs (fun k => so5 (fu g0 6 (upd (g0 6) j (nI k))) n t c) 3) x4 g u) :
    ∀ (d k : Nat) (g : FF), k + d = 3 → (∀ r, r ≠ 6 → r ≠ 12 → r ≠ 13 → g r = g0 r) → (∃ x, g 6 = upd (g0 6) j x) → Q_X5_kinds_L22 (nI j) z K (d + 1) (bs (fun k => so5 (fu g0 6 (upd (g0 6) j (nI k))) n t c) k) (nI k) g u := by
  intro d
  induction d with
  | zero =>
    intro k g hk hg hx
    rw [Q_X5_kinds_L22, show k = 3 by omega]
    exact ⟨fun _ => hK _ g hg hx, fun c => absurd (Int32.le_refl _) c⟩
  | succ d ih =>
    intro k g hk hg hx
    rw [Q_X5_kinds_L22]
    refine ⟨fun c => absurd ((le_nI (a := 3) (by omega) (by omega)).mp c) (by omega), fun _ => ⟨vi_nI (by omega) (by omega), fun g1 eg1 => ?_⟩⟩
    obtain ⟨x, ex⟩ := hx
    have r1 : g1 6 = upd (g0 6) j (nI k) := by
      rw [eg1, fu_eq]; show upd _ (nI j).toNatClampNeg _ = _; rw [nI_clamp (by omega), ex, upd_upd]
    have rr : ∀ r, r ≠ 6 → r ≠ 12 → r ≠ 13 → g1 r = g0 r := fun r a b c => by rw [eg1, fu_ne a, hg r a b c]
    have hP1 : PI n t (sb g1 3) (sb u 2) := hP.rows2 (rr 4 (by decide) (by decide) (by decide)) (rr 5 (by decide) (by decide) (by decide)) rfl rfl
    have es : so5 g1 n t c = so5 (fu g0 6 (upd (g0 6) j (nI k))) n t c := so5_cong (fun r a b => by
      by_cases hr : r = 6
      · rw [hr, r1, fu_eq]
      · rw [fu_ne hr, rr r hr a b])
    refine q5_areSo hP1 hc h8 (fun g2 hs2 => ?_)
    have := ih (k + 1) g2 (by omega) (fun r a b c => by rw [hs2 r b c, rr r a b c]) ⟨nI k, by rw [hs2 6 (by decide) (by decide), r1]⟩
    rw [bs] at this
    rw [es]
    cases hb : so5 (fu g0 6 (upd (g0 6) j (nI k))) n t c with
    | false => exact ⟨fun _ x1 e1 x2 e2 => by rw [e1, e2, nI_1]; rw [hb, if_neg (by decide)] at this; exact this, fun c => absurd rfl c⟩
    | true => exact ⟨fun c => absurd c (by decide), fun _ x1 e1 x2 e2 => by rw [e1, e2, nI_1]; rw [hb, if_pos rfl] at this; exact this⟩
theorem q5_kinds {p : Int32} {c : Nat} (hP : PI n t (sb g 3) (sb u 2)) (hc : c ≤ 8) (h8 : u 8 = nI c)
    (h1 : ∀ j, j < t → p = nI j → ∀ g', S123 g g' → posf (bs (fun k => so5 (fu g 6 (upd (g 6) j (nI k))) n t c) 3) g' u) (h0 : (∀ j, j < t → p ≠ nI j) → posf (-1) g u) : Q_X5_kinds p g u posf := by
  have hn := hP.1
  have ht := hP.2.1
  unfold Q_X5_kinds
  refine q5_isTest hP (fun j hj ej => ⟨fun _ => ?_, fun c => absurd c (by decide)⟩) (fun hne => ⟨fun c => absurd rfl c, fun _ => h0 hne⟩)
  subst ej
  refine ⟨vi_nI (by omega) (by omega), fun z ez => ⟨3 + 1, ?_⟩⟩
  rw [nI_clamp (by omega)] at ez
  refine q5_kinds_loop (by omega) hP hc h8 (fun x4 g' hg hx => ⟨vi_nI (by omega) (by omega), fun g2 eg2 => h1 j hj rfl g2 (fun r a b => ?_)⟩) 3 0 g (by omega) (fun _ _ _ _ => rfl) ⟨g 6 j, (upd_id _ _).symm⟩
  by_cases hr : r = 6
  · obtain ⟨x, ex⟩ := hx
    rw [hr, eg2, fu_eq]; show upd _ (nI j).toNatClampNeg _ = _
    rw [nI_clamp (by omega), ex, upd_upd, ez, upd_id]
  · rw [eg2, fu_ne hr, hg r hr a b]
theorem q5_ways_loop {j c : Nat} {z : Int32} {K : Int32 → Int32 → FF → VV → Prop} {g0 : FF} (hj : j < 5) (hP : PI n t (sb g0 3) (sb u 2)) (hc : c ≤ 8) (h8 : u 8 = nI c)
    (hK : ∀ x4 (g : FF), (∀ r, r ≠ 3 → r ≠ 12 → r ≠ 13 → g r = g0 r) → (∃ x, g 3 = upd (g0 3) j x) → K (bs (fun k => so5 (fu g0 3 (upd (g0 3) j (nI k))) n t c) 5) x4 g u) :
    ∀ (d k : Nat) (g : FF), k + d = 5 → (∀ r, r ≠ 3 → r ≠ 12 → r ≠ 13 → g r = g0 r) → (∃ x, g 3 = upd (g0 3) j x) → Q_X5_ways_L22 (nI j) z K (d + 1) (bs (fun k => so5 (fu g0 3 (upd (g0 3) j (nI k))) n t c) k) (nI k) g u := by
  intro d
  induction d with
  | zero =>
    intro k g hk hg hx
    rw [Q_X5_ways_L22, show k = 5 by omega]
    exact ⟨fun _ => hK _ g hg hx, fun c => absurd (Int32.le_refl _) c⟩
  | succ d ih =>
    intro k g hk hg hx
    rw [Q_X5_ways_L22]
    refine ⟨fun c => absurd ((le_nI (a := 5) (by omega) (by omega)).mp c) (by omega), fun _ => ⟨vi_nI (by omega) (by omega), fun g1 eg1 => ?_⟩⟩
    obtain ⟨x, ex⟩ := hx
    have r1 : g1 3 = upd (g0 3) j (nI k) := by
      rw [eg1, fu_eq]; show upd _ (nI j).toNatClampNeg _ = _; rw [nI_clamp (by omega), ex, upd_upd]
    have rr : ∀ r, r ≠ 3 → r ≠ 12 → r ≠ 13 → g1 r = g0 r := fun r a b c => by rw [eg1, fu_ne a, hg r a b c]
    have hP1 : PI n t (sb g1 3) (sb u 2) := hP.rows2 (rr 4 (by decide) (by decide) (by decide)) (rr 5 (by decide) (by decide) (by decide)) rfl rfl
    have es : so5 g1 n t c = so5 (fu g0 3 (upd (g0 3) j (nI k))) n t c := so5_cong (fun r a b => by
      by_cases hr : r = 3
      · rw [hr, r1, fu_eq]
      · rw [fu_ne hr, rr r hr a b])
    refine q5_areSo hP1 hc h8 (fun g2 hs2 => ?_)
    have := ih (k + 1) g2 (by omega) (fun r a b c => by rw [hs2 r b c, rr r a b c]) ⟨nI k, by rw [hs2 3 (by decide) (by decide), r1]⟩
    rw [bs] at this
    rw [es]
    cases hb : so5 (fu g0 3 (upd (g0 3) j (nI k))) n t c with
    | false => exact ⟨fun _ x1 e1 x2 e2 => by rw [e1, e2, nI_1]; rw [hb, if_neg (by decide)] at this; exact this, fun c => absurd rfl c⟩
    | true => exact ⟨fun c => absurd c (by decide), fun _ x1 e1 x2 e2 => by rw [e1, e2, nI_1]; rw [hb, if_pos rfl] at this; exact this⟩
theorem q5_ways {p : Int32} {c : Nat} (hP : PI n t (sb g 3) (sb u 2)) (hc : c ≤ 8) (h8 : u 8 = nI c)
    (h1 : ∀ j, j < n → p = nI j → ∀ g', S123 g g' → posf (bs (fun k => so5 (fu g 3 (upd (g 3) j (nI k))) n t c) 5) g' u) (h0 : (∀ j, j < n → p ≠ nI j) → posf (-1) g u) : Q_X5_ways p g u posf := by
  have hn := hP.1
  have ht := hP.2.1
  unfold Q_X5_ways
  refine q5_isStep hP (fun j hj ej => ⟨fun _ => ?_, fun c => absurd c (by decide)⟩) (fun hne => ⟨fun c => absurd rfl c, fun _ => h0 hne⟩)
  subst ej
  refine ⟨vi_nI (by omega) (by omega), fun z ez => ⟨5 + 1, ?_⟩⟩
  rw [nI_clamp (by omega)] at ez
  refine q5_ways_loop (by omega) hP hc h8 (fun x4 g' hg hx => ⟨vi_nI (by omega) (by omega), fun g2 eg2 => h1 j hj rfl g2 (fun r a b => ?_)⟩) 5 0 g (by omega) (fun _ _ _ _ => rfl) ⟨g 3 j, (upd_id _ _).symm⟩
  by_cases hr : r = 3
  · obtain ⟨x, ex⟩ := hx
    rw [hr, eg2, fu_eq]; show upd _ (nI j).toNatClampNeg _ = _
    rw [nI_clamp (by omega), ex, upd_upd, ez, upd_id]
  · rw [eg2, fu_ne hr, hg r hr a b]
theorem q5_pl1 {x1 x2 x3 x4 x5 x6 : Int32} {K : Int32 → FF → VV → Prop} {g0 : FF} (hn : n ≤ 5) (e : u 2 = nI n)
    (hK : ∀ x g, (∀ k, k < n → g 3 k = g0 10 (3 * k) ∧ g 4 k = g0 10 (3 * k + 1) ∧ g 5 k = g0 10 (3 * k + 2)) → (∀ j, j < 3 ∨ 5 < j → g j = g0 j) → K x g u) :
    ∀ (d k : Nat) (g : FF), k + d = n → (∀ i, i < k → g 3 i = g0 10 (3 * i) ∧ g 4 i = g0 10 (3 * i + 1) ∧ g 5 i = g0 10 (3 * i + 2)) → (∀ j, j < 3 ∨ 5 < j → g j = g0 j) → Q_X5_program_L103 x1 x2 x3 x4 x5 x6 K (d + 1) (nI k) g u := by
  intro d
  induction d with
  | zero =>
    intro k g hk h1 h2
    rw [Q_X5_program_L103, e, show k = n by omega]
    exact ⟨fun _ => hK _ g (by rw [show n = k by omega]; exact h1) h2, fun c => absurd (Int32.le_refl _) c⟩
  | succ d ih =>
    intro k g hk h1 h2
    rw [Q_X5_program_L103, e, show (3 : Int32) * nI k = nI (3 * k) from pk_mul 3 k, nI_1, show nI (3 * k) + 2 = nI (3 * k + 2) from nI_add _ _, nI_clamp (n := 3 * k) (by omega), nI_clamp (n := 3 * k + 1) (by omega), nI_clamp (n := 3 * k + 2) (by omega)]
    have vk : vp_in (nI k) 5 := vi_nI (by omega) (by omega)
    refine ⟨fun c => absurd ((le_nI (by omega) (by omega)).mp c) (by omega), fun _ => ⟨vi_nI (by omega) (by omega), vk, fun g1 e1 => ⟨vi_nI (by omega) (by omega), vk, fun g2 e2 => ⟨vi_nI (by omega) (by omega), vk, fun g3 e3 x ex => ?_⟩⟩⟩⟩
    rw [ex, nI_1]
    have w : ∀ (f : Nat → Int32) (y : Int32), wr f (nI k) y = upd f k y := fun f y => by show upd f (nI k).toNatClampNeg y = _; rw [nI_clamp (by omega)]
    rw [w] at e1 e2 e3
    have a3 : g3 3 = upd (g 3) k (g 10 (3 * k)) := by rw [e3, fu_ne (by decide), e2, fu_ne (by decide), e1, fu_eq]
    have a4 : g3 4 = upd (g 4) k (g 10 (3 * k + 1)) := by rw [e3, fu_ne (by decide), e2, fu_eq, e1, fu_ne (by decide), fu_ne (by decide)]
    have a5 : g3 5 = upd (g 5) k (g 10 (3 * k + 2)) := by rw [e3, fu_eq, e2, fu_ne (by decide), fu_ne (by decide), e1, fu_ne (by decide), fu_ne (by decide)]
    have ao : ∀ j, j < 3 ∨ 5 < j → g3 j = g0 j := fun j hj => by rw [e3, fu_ne (by omega), e2, fu_ne (by omega), e1, fu_ne (by omega), h2 j hj]
    refine ih (k + 1) g3 (by omega) (fun i hi => ?_) ao
    rw [a3, a4, a5, h2 10 (by omega)]
    rcases Nat.lt_succ_iff_lt_or_eq.mp hi with hi | rfl
    · rw [upd_ne (by omega), upd_ne (by omega), upd_ne (by omega)]; exact h1 i hi
    · rw [upd_eq, upd_eq, upd_eq]; exact ⟨rfl, rfl, rfl⟩
theorem q5_pl2 {x1 x2 x3 x4 x5 x6 : Int32} {K : Int32 → FF → VV → Prop} {g0 : FF} (ht : t ≤ 7) (e : u 3 = nI t)
    (hK : ∀ x g, (∀ k, k < t → g 6 k = g0 11 (4 * k) ∧ g 7 k = g0 11 (4 * k + 1) ∧ g 8 k = g0 11 (4 * k + 2) ∧ g 9 k = g0 11 (4 * k + 3)) → (∀ j, j < 6 ∨ 9 < j → g j = g0 j) → K x g u) :
    ∀ (d k : Nat) (g : FF), k + d = t → (∀ i, i < k → g 6 i = g0 11 (4 * i) ∧ g 7 i = g0 11 (4 * i + 1) ∧ g 8 i = g0 11 (4 * i + 2) ∧ g 9 i = g0 11 (4 * i + 3)) → (∀ j, j < 6 ∨ 9 < j → g j = g0 j) → Q_X5_program_L173 x1 x2 x3 x4 x5 x6 K (d + 1) (nI k) g u := by
  intro d
  induction d with
  | zero =>
    intro k g hk h1 h2
    rw [Q_X5_program_L173, e, show k = t by omega]
    exact ⟨fun _ => hK _ g (by rw [show t = k by omega]; exact h1) h2, fun c => absurd (Int32.le_refl _) c⟩
  | succ d ih =>
    intro k g hk h1 h2
    rw [Q_X5_program_L173, e, show (4 : Int32) * nI k = nI (4 * k) from pk_mul 4 k, nI_1, show nI (4 * k) + 2 = nI (4 * k + 2) from nI_add _ _, show nI (4 * k) + 3 = nI (4 * k + 3) from nI_add _ _, nI_clamp (n := 4 * k) (by omega), nI_clamp (n := 4 * k + 1) (by omega), nI_clamp (n := 4 * k + 2) (by omega), nI_clamp (n := 4 * k + 3) (by omega)]
    have vk : vp_in (nI k) 7 := vi_nI (by omega) (by omega)
    refine ⟨fun c => absurd ((le_nI (by omega) (by omega)).mp c) (by omega), fun _ => ⟨vi_nI (by omega) (by omega), vk, fun g1 e1 => ⟨vi_nI (by omega) (by omega), vk, fun g2 e2 => ⟨vi_nI (by omega) (by omega), vk, fun g3 e3 => ⟨vi_nI (by omega) (by omega), vk, fun g4 e4 x ex => ?_⟩⟩⟩⟩⟩
    rw [ex, nI_1]
    have w : ∀ (f : Nat → Int32) (y : Int32), wr f (nI k) y = upd f k y := fun f y => by show upd f (nI k).toNatClampNeg y = _; rw [nI_clamp (by omega)]
    rw [w] at e1 e2 e3 e4
    have a6 : g4 6 = upd (g 6) k (g 11 (4 * k)) := by rw [e4, fu_ne (by decide), e3, fu_ne (by decide), e2, fu_ne (by decide), e1, fu_eq]
    have a7 : g4 7 = upd (g 7) k (g 11 (4 * k + 1)) := by rw [e4, fu_ne (by decide), e3, fu_ne (by decide), e2, fu_eq, e1, fu_ne (by decide), fu_ne (by decide)]
    have a8 : g4 8 = upd (g 8) k (g 11 (4 * k + 2)) := by rw [e4, fu_ne (by decide), e3, fu_eq, e2, fu_ne (by decide), fu_ne (by decide), e1, fu_ne (by decide), fu_ne (by decide)]
    have a9 : g4 9 = upd (g 9) k (g 11 (4 * k + 3)) := by rw [e4, fu_eq, e3, fu_ne (by decide), fu_ne (by decide), e2, fu_ne (by decide), fu_ne (by decide), e1, fu_ne (by decide), fu_ne (by decide)]
    have ao : ∀ j, j < 6 ∨ 9 < j → g4 j = g0 j := fun j hj => by rw [e4, fu_ne (by omega), e3, fu_ne (by omega), e2, fu_ne (by omega), e1, fu_ne (by omega), h2 j hj]
    refine ih (k + 1) g4 (by omega) (fun i hi => ?_) ao
    rw [a6, a7, a8, a9, h2 11 (by omega)]
    rcases Nat.lt_succ_iff_lt_or_eq.mp hi with hi | rfl
    · rw [upd_ne (by omega), upd_ne (by omega), upd_ne (by omega), upd_ne (by omega)]; exact h1 i hi
    · rw [upd_eq, upd_eq, upd_eq, upd_eq]; exact ⟨rfl, rfl, rfl, rfl⟩
end K5
/-! ===== a DAY, in the reference ===== -/
/-- an act, on a program's rows -/
def actV (k : Nat) (x : Int32) (f : FF) : FF := if k < 10 then fu f 0 (upd (f 0) k x) else if k < 20 then fu f 4 (upd (f 4) (k - 10) x) else fu (fu f 5 (upd (f 5) (k - 20) (x / 10))) 6 (upd (f 6) (k - 20) (x - x / 10 * 10))
def okT (n t k : Nat) : Bool := if k < 10 then decide (k < n) else if k < 20 then decide (k - 10 < t) else decide (k - 20 < t)
def tgt (k : Nat) : Prop := k < 5 ∨ (10 ≤ k ∧ k < 17) ∨ (20 ≤ k ∧ k < 27)
/-- a pair of a DAY that may stand there -/
def okP (x z : Int32) : Prop := ∃ k, z = nI k ∧ ((k < 5 ∧ 0 ≤ x ∧ x ≤ 4) ∨ ((10 ≤ k ∧ k < 17) ∧ 1 ≤ x ∧ x ≤ 9) ∨ ((20 ≤ k ∧ k < 27) ∧ 0 ≤ x ∧ x ≤ 99))
theorem okP_tgt {x z : Int32} (h : okP x z) : ∃ k, z = nI k ∧ tgt k := by
  obtain ⟨k, e, h⟩ := h
  refine ⟨k, e, ?_⟩
  unfold tgt
  omega
theorem rngI {z : Int32} {a b : Nat} (hb : b < 2 ^ 30) (h1 : nI a ≤ z) (h2 : z ≤ nI b) (ha : a < 2 ^ 31) : ∃ k, z = nI k ∧ a ≤ k ∧ k ≤ b := by
  have h0 : ¬ z < 0 := fun c => by
    have := Int32.le_trans h1 (Int32.le_of_lt c)
    have := (le_nI (b := 0) ha (by omega)).mp this
    have : a = 0 := by omega
    subst this
    exact absurd (Int32.lt_of_lt_of_le c h1) Int32.lt_irrefl
  obtain ⟨j, hj, ej⟩ := nI_rng (p := z) (n := b + 1) (by omega) h0 (fun c => by
    have := Int32.le_trans c h2
    have := (le_nI (by omega) (by omega)).mp this
    omega)
  subst ej
  exact ⟨j, rfl, (le_nI ha (by omega)).mp h1, by omega⟩
theorem nrng {k a b : Nat} (hk : k < 2 ^ 31) (ha : a < 2 ^ 31) (hb : b < 2 ^ 31) : (nI a ≤ nI k ∧ nI k ≤ nI b) ↔ (a ≤ k ∧ k ≤ b) := by rw [le_nI ha hk, le_nI hk hb]
theorem okP_iff {x z : Int32} : okP x z ↔ ((0 ≤ z ∧ z ≤ 4) ∧ 0 ≤ x ∧ x ≤ 4) ∨ ((10 ≤ z ∧ z ≤ 16) ∧ 1 ≤ x ∧ x ≤ 9) ∨ ((20 ≤ z ∧ z ≤ 26) ∧ 0 ≤ x ∧ x ≤ 99) := by
  constructor
  · rintro ⟨k, rfl, ⟨h, h2⟩ | ⟨h, h2⟩ | ⟨h, h2⟩⟩
    · exact Or.inl ⟨(nrng (a := 0) (b := 4) (by omega) (by omega) (by omega)).mpr (by omega), h2⟩
    · exact Or.inr (Or.inl ⟨(nrng (a := 10) (b := 16) (by omega) (by omega) (by omega)).mpr (by omega), h2⟩)
    · exact Or.inr (Or.inr ⟨(nrng (a := 20) (b := 26) (by omega) (by omega) (by omega)).mpr (by omega), h2⟩)
  · rintro (⟨h, h2⟩ | ⟨h, h2⟩ | ⟨h, h2⟩)
    · obtain ⟨k, e, a1, a2⟩ := rngI (a := 0) (b := 4) (by omega) h.1 h.2 (by omega)
      exact ⟨k, e, Or.inl ⟨by omega, h2⟩⟩
    · obtain ⟨k, e, a1, a2⟩ := rngI (a := 10) (b := 16) (by omega) h.1 h.2 (by omega)
      exact ⟨k, e, Or.inr (Or.inl ⟨by omega, h2⟩)⟩
    · obtain ⟨k, e, a1, a2⟩ := rngI (a := 20) (b := 26) (by omega) h.1 h.2 (by omega)
      exact ⟨k, e, Or.inr (Or.inr ⟨by omega, h2⟩)⟩
theorem yes1 {P Q : Prop} (h : Q) : ((1 : Int32) = 0 → P) ∧ (¬ (1 : Int32) = 0 → Q) := ⟨fun c => absurd c (by decide), fun _ => h⟩
theorem yes1' {P Q : Prop} (h : Q) : (¬ (1 : Int32) = 0 → Q) ∧ ((1 : Int32) = 0 → P) := ⟨fun _ => h, fun c => absurd c (by decide)⟩
theorem no0 {P Q : Prop} (h : P) : ((0 : Int32) = 0 → P) ∧ (¬ (0 : Int32) = 0 → Q) := ⟨fun _ => h, fun c => absurd rfl c⟩
theorem no0' {P Q : Prop} (h : P) : (¬ (0 : Int32) = 0 → Q) ∧ ((0 : Int32) = 0 → P) := ⟨fun c => absurd rfl c, fun _ => h⟩
theorem q5_isPair {x z : Int32} {post : Int32 → Prop} (h1 : okP x z → post 1) (h0 : ¬ okP x z → post 0) : Q_X5_isPair x z post := by
  rw [okP_iff] at h1 h0
  unfold Q_X5_isPair
  have T : (¬ ((0 ≤ z ∧ z ≤ 4) ∧ 0 ≤ x ∧ x ≤ 4)) → (¬ ((10 ≤ z ∧ z ≤ 16) ∧ 1 ≤ x ∧ x ≤ 9)) → Q_X5_within z (20 : Int32) (26 : Int32) (fun r_5 => (r_5 = 0 → post (0 : Int32)) ∧ (¬ r_5 = 0 → Q_X5_within x (0 : Int32) (99 : Int32) (fun r_7 => (r_7 = 0 → post (0 : Int32)) ∧ (¬ r_7 = 0 → post (1 : Int32))))) := by
    intro n1 n2
    refine q5_within (fun a b => yes1 (q5_within (fun a2 b2 => yes1 (h1 (Or.inr (Or.inr ⟨⟨a, b⟩, a2, b2⟩)))) (fun c => no0 (h0 ?_)))) (fun c => no0 (h0 ?_))
    · exact fun h => h.elim n1 (fun h => h.elim n2 (fun h => c h.2))
    · exact fun h => h.elim n1 (fun h => h.elim n2 (fun h => c h.1))
  have S : (¬ ((0 ≤ z ∧ z ≤ 4) ∧ 0 ≤ x ∧ x ≤ 4)) → Q_X5_within z (10 : Int32) (16 : Int32) (fun r_3 => (r_3 = 0 → Q_X5_within z (20 : Int32) (26 : Int32) (fun r_5 => (r_5 = 0 → post (0 : Int32)) ∧ (¬ r_5 = 0 → Q_X5_within x (0 : Int32) (99 : Int32) (fun r_7 => (r_7 = 0 → post (0 : Int32)) ∧ (¬ r_7 = 0 → post (1 : Int32)))))) ∧ (¬ r_3 = 0 → Q_X5_within x (1 : Int32) (9 : Int32) (fun r_9 => (¬ r_9 = 0 → post (1 : Int32)) ∧ (r_9 = 0 → Q_X5_within z (20 : Int32) (26 : Int32) (fun r_5 => (r_5 = 0 → post (0 : Int32)) ∧ (¬ r_5 = 0 → Q_X5_within x (0 : Int32) (99 : Int32) (fun r_7 => (r_7 = 0 → post (0 : Int32)) ∧ (¬ r_7 = 0 → post (1 : Int32))))))))) := by
    intro n1
    refine q5_within (fun a b => yes1 (q5_within (fun a2 b2 => yes1' (h1 (Or.inr (Or.inl ⟨⟨a, b⟩, a2, b2⟩)))) (fun c => no0' (T n1 (fun h => c h.2))))) (fun c => no0 (T n1 (fun h => c h.1)))
  refine q5_within (fun a b => yes1 (q5_within (fun a2 b2 => yes1' (h1 (Or.inl ⟨⟨a, b⟩, a2, b2⟩))) (fun c => no0' (S (fun h => c h.2))))) (fun c => no0 (S (fun h => c h.1)))
section D5
variable {n t : Nat} {g : FF} {u : VV} {posf : Int32 → FF → VV → Prop} {post : Int32 → Prop}
theorem actV_rest {k : Nat} {x : Int32} {f : FF} : actV k x f 1 = f 1 ∧ actV k x f 2 = f 2 ∧ actV k x f 3 = f 3 := by
  unfold actV
  split
  · exact ⟨fu_ne (by decide), fu_ne (by decide), fu_ne (by decide)⟩
  · split
    · exact ⟨fu_ne (by decide), fu_ne (by decide), fu_ne (by decide)⟩
    · refine ⟨?_, ?_, ?_⟩ <;> rw [fu_ne (by decide), fu_ne (by decide)]
/-- the rows behind an act -/
def Act5 (k : Nat) (x : Int32) (g g' : FF) : Prop := (∀ r, r < 7 → g' (3 + r) = actV k x (sb g 3) r) ∧ ∀ j, j < 3 ∨ 10 ≤ j → g' j = g j
theorem wrN {k : Nat} (hk : k < 2 ^ 31) (f : Nat → Int32) (y : Int32) : wr f (nI k) y = upd f k y := by show upd f (nI k).toNatClampNeg y = _; rw [nI_clamp hk]
theorem q5_does {k : Nat} {x : Int32} (hP : PI n t (sb g 3) (sb u 2)) (hk : tgt k) (h1 : okT n t k = true → ∀ g', Act5 k x g g' → posf 1 g' u) (h0 : okT n t k = false → posf 0 g u) : Q_X5_does x (nI k) g u posf := by
  have hn := hP.1
  have ht := hP.2.1
  unfold Q_X5_does
  unfold tgt at hk
  unfold okT at h1 h0
  refine ⟨fun c z ez => ?_, fun c => ?_⟩
  · have c : 10 ≤ k := (le_nI (a := 10) (by omega) (by omega)).mp c
    rw [i10, nI_mod (by omega) (by omega) (by omega)] at ez
    subst ez
    rw [if_neg (by omega)] at h1 h0
    refine q5_isTest hP (fun j hj ej => yes1' ⟨fun c2 => ?_, fun c2 => ?_⟩) (fun hne => no0' (h0 ?_))
    · have c2 : 20 ≤ k := (le_nI (a := 20) (by omega) (by omega)).mp c2
      have ej : k % 10 = j := (nI_eq (by omega) (by omega)).mp ej
      have ek : k - 20 = j := by omega
      rw [if_neg (by omega)] at h1
      rw [show k % 10 = j from ej]
      have vj : vp_in (nI j) 7 := vi_nI (by omega) (by omega)
      refine ⟨vj, fun g1 e1 => ⟨vj, fun g2 e2 => h1 (decide_eq_true (by omega)) g2 ⟨fun r hr => ?_, fun r hr => ?_⟩⟩⟩
      · rw [wrN (by omega)] at e1 e2
        unfold actV
        rw [if_neg (by omega), if_neg (by omega), ek]
        by_cases h6 : r = 6
        · subst h6
          rw [fu_eq, e2]; show fu g1 9 _ 9 = _; rw [fu_eq, e1, fu_ne (by decide)]; rfl
        · rw [fu_ne h6, e2, fu_ne (by omega), e1]
          by_cases h5 : r = 5
          · subst h5
            rw [fu_eq]; show fu g 8 _ 8 = _; rw [fu_eq]; rfl
          · rw [fu_ne h5, fu_ne (by omega)]; rfl
      · rw [e2, fu_ne (by omega), e1, fu_ne (by omega)]
    · have c2 : ¬ 20 ≤ k := fun z => c2 ((le_nI (a := 20) (by omega) (by omega)).mpr z)
      have ej : k % 10 = j := (nI_eq (by omega) (by omega)).mp ej
      have ek : k - 10 = j := by omega
      rw [if_pos (by omega)] at h1
      rw [show k % 10 = j from ej]
      have vj : vp_in (nI j) 7 := vi_nI (by omega) (by omega)
      refine ⟨vj, fun g1 e1 => h1 (decide_eq_true (by omega)) g1 ⟨fun r hr => ?_, fun r hr => by rw [e1, fu_ne (by omega)]⟩⟩
      rw [wrN (by omega)] at e1
      unfold actV
      rw [if_neg (by omega), if_pos (by omega), ek, e1]
      by_cases h4 : r = 4
      · subst h4
        rw [fu_eq]; show fu g 7 _ 7 = _; rw [fu_eq]; rfl
      · rw [fu_ne h4, fu_ne (by omega)]; rfl
    · by_cases c2 : k < 20
      · rw [if_pos c2]; exact decide_eq_false (fun z => hne (k - 10) z (by rw [show k % 10 = k - 10 by omega]))
      · rw [if_neg c2]; exact decide_eq_false (fun z => hne (k - 20) z (by rw [show k % 10 = k - 20 by omega]))
  · have c : ¬ 10 ≤ k := fun z => c ((le_nI (a := 10) (by omega) (by omega)).mpr z)
    rw [if_pos (by omega)] at h1 h0
    refine q5_isStep hP (fun j hj ej => yes1' ?_) (fun hne => no0' (h0 (decide_eq_false (fun z => hne k z rfl))))
    have ej : k = j := (nI_eq (by omega) (by omega)).mp ej
    subst ej
    refine ⟨vi_nI (by omega) (by omega), fun g1 e1 => h1 (decide_eq_true hj) g1 ⟨fun r hr => ?_, fun r hr => by rw [e1, fu_ne (by omega)]⟩⟩
    rw [wrN (by omega)] at e1
    unfold actV
    rw [if_pos (by omega), e1]
    by_cases h4 : r = 0
    · subst h4
      rw [fu_eq]; show fu g 3 _ 3 = _; rw [fu_eq]; rfl
    · rw [fu_ne h4, fu_ne (by omega)]; rfl
/-- the program's rows after i pairs -/
def goV (c : Nat → Int32) : Nat → FF → FF
  | 0, f => f
  | i + 1, f => actV (c (2 * i + 1)).toNatClampNeg (c (2 * i)) (goV c i f)
theorem goV_rest {c : Nat → Int32} {f : FF} : ∀ i, goV c i f 1 = f 1 ∧ goV c i f 2 = f 2 ∧ goV c i f 3 = f 3
  | 0 => ⟨rfl, rfl, rfl⟩
  | i + 1 => by
    obtain ⟨a, b, d⟩ := goV_rest (c := c) (f := f) i
    obtain ⟨a', b', d'⟩ := actV_rest (k := (c (2 * i + 1)).toNatClampNeg) (x := c (2 * i)) (f := goV c i f)
    exact ⟨a'.trans a, b'.trans b, d'.trans d⟩
theorem actV_cong {k : Nat} {x : Int32} {f f' : FF} (h : ∀ r, r < 7 → f r = f' r) : ∀ r, r < 7 → actV k x f r = actV k x f' r := by
  intro r hr
  unfold actV
  split
  · rw [h 0 (by decide)]
    by_cases e : r = 0
    · rw [e, fu_eq, fu_eq]
    · rw [fu_ne e, fu_ne e, h r hr]
  · split
    · rw [h 4 (by decide)]
      by_cases e : r = 4
      · rw [e, fu_eq, fu_eq]
      · rw [fu_ne e, fu_ne e, h r hr]
    · rw [h 5 (by decide), h 6 (by decide)]
      by_cases e : r = 6
      · rw [e, fu_eq, fu_eq]
      · rw [fu_ne e, fu_ne e]
        by_cases e : r = 5
        · rw [e, fu_eq, fu_eq]
        · rw [fu_ne e, fu_ne e, h r hr]
def Go5 (c : Nat → Int32) (i : Nat) (g g' : FF) : Prop := (∀ r, r < 7 → g' (3 + r) = goV c i (sb g 3) r) ∧ ∀ j, j < 3 ∨ 10 ≤ j → g' j = g j
theorem Go5.pi {c : Nat → Int32} {i : Nat} {g g' : FF} (h : Go5 c i g g') (hP : PI n t (sb g 3) (sb u 2)) : PI n t (sb g' 3) (sb u 2) :=
  hP.rows2 ((h.1 1 (by decide)).trans (goV_rest i).1) ((h.1 2 (by decide)).trans (goV_rest i).2.1) rfl rfl
theorem q5_go_loop {b m : Nat} {K0 K1 : Int32 → FF → VV → Prop} {g0 : FF} (hP : PI n t (sb g0 3) (sb u 2)) (hb : b + 2 * m ≤ 240) (hp : ∀ i, i < m → okP (cs (g0 2) b (2 * i)) (cs (g0 2) b (2 * i + 1)))
    (h0 : ∀ i g, i < m → (∀ j, j < i → okT n t (cs (g0 2) b (2 * j + 1)).toNatClampNeg = true) → okT n t (cs (g0 2) b (2 * i + 1)).toNatClampNeg = false → Go5 (cs (g0 2) b) i g0 g → K0 (nI i) g u)
    (h1 : ∀ x g, (∀ j, j < m → okT n t (cs (g0 2) b (2 * j + 1)).toNatClampNeg = true) → Go5 (cs (g0 2) b) m g0 g → K1 x g u) :
    ∀ (d k : Nat) (g : FF), k + d = m → (∀ j, j < k → okT n t (cs (g0 2) b (2 * j + 1)).toNatClampNeg = true) → Go5 (cs (g0 2) b) k g0 g → Q_X5_goDay_L2 (nI b) (nI m) K0 K1 (d + 1) (nI k) g u := by
  intro d
  induction d with
  | zero =>
    intro k g hk hok hG
    rw [Q_X5_goDay_L2, show k = m by omega]
    rw [show k = m by omega] at hok hG
    exact ⟨fun _ => h1 _ g hok hG, fun c => absurd (Int32.le_refl _) c⟩
  | succ d ih =>
    intro k g hk hok hG
    rw [Q_X5_goDay_L2, show (2 : Int32) * nI k = nI (2 * k) from pk_mul 2 k, nI_add, nI_1, nI_clamp (n := b + 2 * k) (by omega), nI_clamp (n := b + 2 * k + 1) (by omega)]
    refine ⟨fun c => absurd ((le_nI (by omega) (by omega)).mp c) (by omega), fun _ => ⟨vi_nI (by omega) (by omega), vi_nI (by omega) (by omega), ?_⟩⟩
    rw [hG.2 2 (by omega)]
    obtain ⟨k', ek, hk'⟩ := okP_tgt (hp k (by omega))
    have e1 : g0 2 (b + 2 * k + 1) = nI k' := ek
    have e2 : (cs (g0 2) b (2 * k + 1)).toNatClampNeg = k' := by rw [ek, nI_clamp (by unfold tgt at hk'; omega)]
    rw [e1]
    refine q5_does (hG.pi hP) hk' (fun ho g1 hA => yes1' (fun x ex => ?_)) (fun ho => no0' ?_)
    · rw [ex, nI_1]
      refine ih (k + 1) g1 (by omega) (fun j hj => ?_) ⟨fun r hr => ?_, fun j hj => (hA.2 j hj).trans (hG.2 j hj)⟩
      · rcases Nat.lt_succ_iff_lt_or_eq.mp hj with hj | rfl
        · exact hok j hj
        · rw [e2]; exact ho
      · rw [hA.1 r hr]
        show actV _ _ _ r = actV _ _ _ r
        rw [e2]
        exact actV_cong (fun r hr => hG.1 r hr) r hr
    · exact h0 k g (by omega) hok (by rw [e2]; exact ho) hG
theorem q5_goDay {b m : Nat} (hP : PI n t (sb g 3) (sb u 2)) (hb : b + 2 * m ≤ 240) (hp : ∀ i, i < m → okP (cs (g 2) b (2 * i)) (cs (g 2) b (2 * i + 1)))
    (h0 : ∀ i g', i < m → (∀ j, j < i → okT n t (cs (g 2) b (2 * j + 1)).toNatClampNeg = true) → okT n t (cs (g 2) b (2 * i + 1)).toNatClampNeg = false → Go5 (cs (g 2) b) i g g' → posf (nI i) g' u)
    (h1 : ∀ g', (∀ j, j < m → okT n t (cs (g 2) b (2 * j + 1)).toNatClampNeg = true) → Go5 (cs (g 2) b) m g g' → posf (-9) g' u) : Q_X5_goDay (nI b) (nI m) g u posf :=
  ⟨m + 1, q5_go_loop hP hb hp h0 (fun _ => h1) m 0 g (by omega) (fun _ h => absurd h (by omega)) ⟨fun _ _ => rfl, fun _ _ => rfl⟩⟩
/-- what is told of a DAY -/
def td5 (g : FF) (n t : Nat) (w : Int32) : Int32 := if w = 0 then nI (fb_ct (fun q => decide (¬ kls g n t q = 0)) (4 * n)) else if w = 2 then nI (fb_ct (eqM (sb g 3) n) (4 * n)) else if w = 3 then nI (fb_ct (least (kls g n t) (4 * n)) (4 * n)) else cw5 g n t
theorem all_cong {p q : Nat → Bool} {m : Nat} (h : ∀ k, k < m → p k = q k) : (List.range m).all p = (List.range m).all q := by
  rw [Bool.eq_iff_iff, List.all_eq_true, List.all_eq_true]
  constructor
  · intro a x hx; rw [← h x (List.mem_range.mp hx)]; exact a x hx
  · intro a x hx; rw [h x (List.mem_range.mp hx)]; exact a x hx
theorem noBy_cong {B B' : Nat → Int32} {m : Nat} (h : ∀ q, q < m → B q = B' q) {q k : Nat} (hq : q < m) (hk : k < m) : noBy B q k = noBy B' q k := by
  unfold noBy sub; rw [h q hq, h k hk]
theorem least_cong {B B' : Nat → Int32} {m : Nat} (h : ∀ q, q < m → B q = B' q) {q : Nat} (hq : q < m) : least B m q = least B' m q := by
  unfold least
  rw [h q hq]
  congr 1
  exact all_cong (fun k hk => noBy_cong h hq hk)
theorem q5_tellDay {w : Int32} (hP : PI n t (sb g 3) (sb u 2)) (hn : 0 < n) (h1 : w < 10 → ∀ g', S123 g g' → posf (td5 g n t w) g' u)
    (h2 : ∀ j, j < t → w - 10 = nI j → ∀ g', S123 g g' → posf (out (g 3) (g 4) (g 5) (g 8 j) (g 9 j) n) g' u) (h3 : ¬ w < 10 → (∀ j, j < t → w - 10 ≠ nI j) → posf (-9) g u) : Q_X5_tellDay w g u posf := by
  have ht := hP.2.1
  unfold Q_X5_tellDay
  refine ⟨fun c => q5_findKillers hP (fun g' hs hB => ?_), fun c => q5_isTest hP (fun j hj ej => yes1 ?_) (fun hne => no0 (h3 c hne))⟩
  · have h1 := h1 c
    unfold td5 at h1
    have hP' : PI n t (sb g' 3) (sb u 2) := hP.rows (fun j hj => hs.pv j (by omega)) rfl rfl
    have e6 := hs 6 (by decide) (by decide)
    have e7 := hs 7 (by decide) (by decide)
    refine ⟨fun c0 => ⟨fun c2 => ⟨fun c3 => q5_findCover hP' (q5_weightOfSet hP' ?_), fun c3 => q5_manyLeast hP' ?_⟩, fun c2 => q5_manyEqual hP' (fun g2 hs2 => ?_)⟩, fun c0 => q5_killed hP' ?_⟩
    · have := h1 g' hs
      rw [if_neg c0, if_neg c2, if_neg c3] at this
      rw [e6, e7, cov_cong hB]; exact this
    · have := h1 g' hs
      rw [if_neg c0, if_neg c2, if_pos c3] at this
      rw [fb_ct_cong (fun k hk => least_cong hB hk)]; exact this
    · have := h1 g2 (hs.tr hs2.up)
      rw [if_neg c0, if_pos c2] at this
      rw [show fb_ct (eqM (sb g' 3) n) (4 * n) = fb_ct (eqM (sb g 3) n) (4 * n) from fb_ct_cong (fun k hk => by unfold eqM; rw [cntK_rows (fun j hj => hs.pv j hj)])]
      exact this
    · have := h1 g' hs
      rw [if_pos c0] at this
      rw [show fb_ct (fun q => decide (¬ g' 13 q = 0)) (4 * n) = fb_ct (fun q => decide (¬ kls g n t q = 0)) (4 * n) from fb_ct_cong (fun k hk => by rw [hB k hk])]
      exact this
  · rw [ej, nI_clamp (by omega)]
    have vj : vp_in (nI j) 7 := vi_nI (by omega) (by omega)
    exact ⟨vj, vj, q5_plainRun hP hn (fun g' hs _ => h2 j hj ej g' hs.up)⟩
end D5
/-! ===== what the class and the reference have in common ===== -/
abbrev Agree (n t : Nat) (p q : FF) : Prop := Like n t p (q 0) (q 1) (q 2) (q 3) (q 4) (q 5) (q 6)
def ShR (k : Nat) (f : FF) (v : VV) (g : FF) : Prop := (v (3 + 2 * k) = -1 ∧ g 0 k = -9) ∨ ∃ l m : Nat, l < 3 ∧ m ≤ 60 ∧ v (3 + 2 * k) = nI l ∧ g 0 k = nI l ∧ v (4 + 2 * k) = nI m ∧ g 1 k = nI m ∧ ∀ i, i < m → f (1 + k) i = g 2 (60 * k + i)
/-- the tests' kinds and times are as told -/
def VD (t : Nat) (p : FF) : Prop := ∀ j, j < t → (∃ κ, κ < 3 ∧ p 3 j = nI κ) ∧ ∃ τ, τ < 10 ∧ p 4 j = nI τ
theorem VD.of {t : Nat} {p p' : FF} (h : VD t p) (h3 : p' 3 = p 3) (h4 : p' 4 = p 4) : VD t p' := fun j hj => by rw [h3, h4]; exact h j hj
def PrR (f : FF) (v : VV) (g : FF) (u : VV) : Prop := ∃ n t, PI n t (sb f 5) (sb v 11) ∧ PI n t (sb g 3) (sb u 2) ∧ (n = 0 ↔ t = 0) ∧ Agree n t (sb f 5) (sb g 3) ∧ VD t (sb f 5)
def RdR (f : FF) (v : VV) (g : FF) (u : VV) : Prop := ∃ c, c ≤ 8 ∧ v 0 = nI c ∧ u 8 = nI c ∧ ∀ i, i < c → f 0 i = g 16 i
def Rel0 (f : FF) (v : VV) (g : FF) (u : VV) : Prop := (∀ k, k < 4 → ShR k f v g) ∧ PrR f v g u ∧ RdR f v g u ∧ v 1 = u 1 ∧ v 2 = u 0
/-- nothing that lasts has changed -/
def FC (f : FF) (v : VV) (f' : FF) (v' : VV) : Prop := (∀ j, j < 12 → f' j = f j) ∧ ∀ i, i < 13 → v' i = v i
def FE (g : FF) (u : VV) (g' : FF) (u' : VV) : Prop := (∀ j, j < 10 ∨ j = 16 → g' j = g j) ∧ ∀ i, i < 4 ∨ i = 8 → u' i = u i
theorem FC.rf {f : FF} {v : VV} : FC f v f v := ⟨fun _ _ => rfl, fun _ _ => rfl⟩
theorem FE.rf {f : FF} {v : VV} : FE f v f v := ⟨fun _ _ => rfl, fun _ _ => rfl⟩
theorem FC.tr {f f' f'' : FF} {v v' v'' : VV} (h : FC f v f' v') (h' : FC f' v' f'' v'') : FC f v f'' v'' := ⟨fun j hj => (h'.1 j hj).trans (h.1 j hj), fun j hj => (h'.2 j hj).trans (h.2 j hj)⟩
theorem FE.tr {f f' f'' : FF} {v v' v'' : VV} (h : FE f v f' v') (h' : FE f' v' f'' v'') : FE f v f'' v'' := ⟨fun j hj => (h'.1 j hj).trans (h.1 j hj), fun j hj => (h'.2 j hj).trans (h.2 j hj)⟩
theorem S123.fe {g g' : FF} {u : VV} (h : S123 g g') : FE g u g' u := ⟨fun j hj => h j (by omega) (by omega), fun _ _ => rfl⟩
theorem S12.fe {g g' : FF} {u : VV} (h : S12 g g') : FE g u g' u := ⟨fun j hj => h j (by omega), fun _ _ => rfl⟩
theorem Agree.of {n t : Nat} {p q p' q' : FF} (h : Agree n t p q) (hp : ∀ r, r < 7 → p' r = p r) (hq : ∀ r, r < 7 → q' r = q r) : Agree n t p' q' := by
  unfold Agree Like at h ⊢
  rw [hp 0 (by decide), hp 1 (by decide), hp 2 (by decide), hp 3 (by decide), hp 4 (by decide), hp 5 (by decide), hp 6 (by decide), hq 0 (by decide), hq 1 (by decide), hq 2 (by decide), hq 3 (by decide), hq 4 (by decide), hq 5 (by decide), hq 6 (by decide)]
  exact h
theorem ShR.of {k : Nat} {f f' : FF} {v v' : VV} {g g' : FF} (h : ShR k f v g) (h1 : f' (1 + k) = f (1 + k)) (h2 : v' (3 + 2 * k) = v (3 + 2 * k)) (h3 : v' (4 + 2 * k) = v (4 + 2 * k)) (h4 : g' 0 k = g 0 k) (h5 : g' 1 k = g 1 k) (h6 : ∀ i, i < 60 → g' 2 (60 * k + i) = g 2 (60 * k + i)) : ShR k f' v' g' := by
  unfold ShR at h ⊢
  rw [h1, h2, h3, h4, h5]
  rcases h with h | ⟨l, m, a1, a2, a3, a4, a5, a6, a7⟩
  · exact Or.inl h
  · exact Or.inr ⟨l, m, a1, a2, a3, a4, a5, a6, fun i hi => by rw [h6 i (by omega)]; exact a7 i hi⟩
theorem Rel0.fr {f f' : FF} {v v' : VV} {g g' : FF} {u u' : VV} (h : Rel0 f v g u) (hc : FC f v f' v') (he : FE g u g' u') : Rel0 f' v' g' u' := by
  obtain ⟨hs, ⟨n, t, p1, p2, p3, p4, p5⟩, ⟨c, r1, r2, r3, r4⟩, ht, hf⟩ := h
  refine ⟨fun k hk => (hs k hk).of (hc.1 _ (by omega)) (hc.2 _ (by omega)) (hc.2 _ (by omega)) (by rw [he.1 0 (by omega)]) (by rw [he.1 1 (by omega)]) (fun i _ => by rw [he.1 2 (by omega)]), ⟨n, t, ?_, ?_, p3, ?_, p5.of (hc.1 8 (by omega)) (hc.1 9 (by omega))⟩, ⟨c, r1, ?_, ?_, ?_⟩, ?_, ?_⟩
  · exact p1.rows (fun j hj => hc.1 (5 + j) (by omega)) (hc.2 11 (by omega)) (hc.2 12 (by omega))
  · exact p2.rows (fun j hj => he.1 (3 + j) (by omega)) (he.2 2 (by omega)) (he.2 3 (by omega))
  · exact p4.of (fun r hr => hc.1 (5 + r) (by omega)) (fun r hr => he.1 (3 + r) (by omega))
  · rw [hc.2 0 (by omega)]; exact r2
  · rw [he.2 8 (by omega)]; exact r3
  · intro i hi; rw [hc.1 0 (by omega), he.1 16 (by omega)]; exact r4 i hi
  · rw [hc.2 1 (by omega), he.2 1 (by omega)]; exact ht
  · rw [hc.2 2 (by omega), he.2 0 (by omega)]; exact hf
theorem Rel0.fault {f : FF} {v : VV} {g : FF} {u : VV} (h : Rel0 f v g u) (x : Int32) : Rel0 f (fu v 2 x) g (fu u 0 x) := by
  obtain ⟨hs, ⟨n, t, p1, p2, p3, p4, p5⟩, ⟨c, r1, r2, r3, r4⟩, ht, hf⟩ := h
  refine ⟨fun k hk => (hs k hk).of rfl (fu_ne (by omega)) (fu_ne (by omega)) rfl rfl (fun _ _ => rfl), ⟨n, t, p1, p2, p3, p4, p5⟩, ⟨c, r1, r2, r3, r4⟩, ht, ?_⟩
  rw [fu_eq, fu_eq]
/-! what the class's own worlds hold -/
theorem jn_lt {α : Type} {f : Nat → α} {a n b j : Nat} (h : j < n) : jn f a n b j = f (a + j) := if_pos h
theorem jn_ge {α : Type} {f : Nat → α} {a n b j : Nat} (h : ¬ j < n) : jn f a n b j = f (b + (j - n)) := if_neg h
theorem PI.jn {n t : Nat} {f : FF} {v : VV} {a b c d : Nat} (h : PI n t (sb f a) (sb v c)) : PI n t (jn f a 9 b) (jn v c 2 d) := h
section M4
variable {n t : Nat} {f : FF} {v : VV} {post : Int32 → Prop} {posf : Int32 → FF → VV → Prop}
/-- what Kills holds of a program p -/
def Kf (n t : Nat) (p : FF) (f : FF) (v : VV) : Prop := KI t (4 * n) (sb v 19) ∧ (∀ i, i < t → f 33 i = bs (kt' p n i) (4 * n)) ∧ (∀ i, i < t → f 35 i = wgt (p 3 i) (p 4 i)) ∧ (∀ q, q < 4 * n → f 34 q = bs (fun i => kt' p n i q) t) ∧ v 21 = bs (fun q => (List.range t).any (fun i => kt' p n i q)) (4 * n)
/-- the worlds but for the scratch rows of the program at b -/
def FB (b : Nat) (f : FF) (v : VV) (f' : FF) (v' : VV) : Prop := (∀ j, j < 33 → j ≠ b + 7 → j ≠ b + 8 → f' j = f j) ∧ ∀ i, i < 19 → v' i = v i
theorem FB.fc {b : Nat} {f f' : FF} {v v' : VV} (h : FB b f v f' v') (hb : 5 ≤ b) : FC f v f' v' := ⟨fun j hj => h.1 j (by omega) (by omega) (by omega), fun i hi => h.2 i (by omega)⟩
theorem q_findAt {b c : Nat} {pos : FF → VV → Prop} (hb : b + 9 ≤ 33) (hc : c + 2 ≤ 19) (hP : PI n t (sb f b) (sb v c)) (h : ∀ f' v', FB b f v f' v' → Kf n t (sb f b) f' v' → pos f' v') :
    Q_X0_find (jn f b 9 33) (jn v c 2 19) (fun f_3 v_4 => (∀ f_5 : FF, f_5 = mg (mg f b 9 f_3) 33 4 (sb f_3 9) → (∀ v_6 : VV, v_6 = mg (mg v c 2 v_4) 19 3 (sb v_4 2) → (pos f_5 v_6)))) := by
  refine q_find hP.jn (fun f3 v4 hF f5 e5 v6 e6 => ?_)
  obtain ⟨a1, a2, a3, a4, a5, a6, a7, a8, a9, a10⟩ := hF
  have hn := hP.1
  have ht := hP.2.1
  have r : ∀ i, i < 4 → f5 (33 + i) = f3 (9 + i) := fun i hi => by rw [e5, mg_at hi]; rfl
  have w : ∀ i, i < 3 → v6 (19 + i) = v4 (2 + i) := fun i hi => by rw [e6, mg_at hi]; rfl
  refine h f5 v6 ⟨fun j h1 h2 h3 => ?_, fun i hi => ?_⟩ ⟨⟨ht, by omega, (w 0 (by decide)).trans a8, (w 1 (by decide)).trans a9⟩, fun i hi => by rw [r 0 (by decide)]; exact a3 i hi, fun i hi => by rw [r 2 (by decide)]; exact a4 i hi, fun q hq => by rw [r 1 (by decide)]; exact a5 q hq, (w 2 (by decide)).trans a10⟩
  · rw [e5, mg_out (by omega)]
    by_cases hj : b ≤ j ∧ j < b + 9
    · rw [mg_in hj.1 hj.2, a1 (j - b) (by omega), jn_lt (by omega)]
      congr 1; omega
    · rw [mg_out hj]
  · rw [e6, mg_out (by omega)]
    by_cases hj : c ≤ i ∧ i < c + 2
    · rw [mg_in hj.1 hj.2]
      have : i - c = 0 ∨ i - c = 1 := by omega
      rcases this with e | e
      · rw [e, a6, show i = c + 0 by omega]; exact hP.2.2.1.symm
      · rw [e, a7, show i = c + 1 by omega]; exact hP.2.2.2.1.symm
    · rw [mg_out hj]
theorem q_killsNow {pos : FF → VV → Prop} (hP : PI n t (sb f 5) (sb v 11)) (h : ∀ f' v', FC f v f' v' → Kf n t (sb f 5) f' v' → pos f' v') : Q_X4_killsNow f v pos :=
  q_findAt (b := 5) (c := 11) (by decide) (by decide) hP (fun f' v' hF => h f' v' (hF.fc (by decide)))
/-- back from a program's world at b into the class's -/
theorem back_fb {b c : Nat} {p : FF} {f' : FF} {v' : VV} (hs : Sm (sb f b) p) (ef : f' = mg f b 9 p) (ev : v' = mg v c 2 (sb v c)) : FB b f v f' v' ∧ ∀ j, j < 9 → f' (b + j) = p j := by
  rw [mg_sb] at ev
  subst ev
  refine ⟨⟨fun j h1 h2 h3 => ?_, fun _ _ => rfl⟩, fun j hj => by rw [ef, mg_at hj]⟩
  rw [ef]
  by_cases hj : b ≤ j ∧ j < b + 9
  · rw [mg_in hj.1 hj.2, hs (j - b) (by omega) (by omega)]
    show f (b + (j - b)) = f j
    congr 1; omega
  · rw [mg_out hj]
theorem Sm.of7 {f f' : FF} (h : ∀ j, j ≠ 7 → f' j = f j) : Sm f f' := fun j a _ => h j a
theorem Sm.of8 {f f' : FF} (h : ∀ j, j ≠ 8 → f' j = f j) : Sm f f' := fun j _ b => h j b
theorem sb_add {α : Type} (f : Nat → α) (a j : Nat) : sb f a j = f (a + j) := rfl
end M4
