/-! ===== the reference: runs and kills; its program's rows are sb g 3, its numbers sb u 2 ===== -/
def wv (x3 x4 : Int32) (w : Nat → Int32) : Nat → Int32 := fun k => if nI k = x3 then x4 else w k
/-- all rows but made stay -/
def S12 (g g' : FF) : Prop := ∀ j, j ≠ 12 → g' j = g j
theorem S12.rf {g : FF} : S12 g g := fun _ _ => rfl
theorem S12.tr {f g h : FF} (h1 : S12 f g) (h2 : S12 g h) : S12 f h := fun j a => (h2 j a).trans (h1 j a)
theorem S12.pv {g g' : FF} (h : S12 g g') : ∀ j, j < 7 → sb g' 3 j = sb g 3 j := fun j hj => h (3 + j) (by omega)
theorem PI.rows {n t : Nat} {f f' : FF} {v v' : VV} (h : PI n t f v) (hs : ∀ j, j < 3 → f' j = f j) (h0 : v' 0 = v 0) (h1 : v' 1 = v 1) : PI n t f' v' := by
  obtain ⟨a1, a2, a3, a4, a5⟩ := h
  refine ⟨a1, a2, h0.trans a3, h1.trans a4, fun k hk => ?_⟩
  rw [hs 1 (by decide), hs 2 (by decide)]
  exact a5 k hk
theorem kt_rows {f f' : FF} (hs : ∀ j, j < 7 → f' j = f j) (n j q : Nat) : kt' f' n j q = kt' f n j q := by
  unfold kt'
  rw [hs 0 (by decide), hs 1 (by decide), hs 2 (by decide), hs 5 (by decide), hs 6 (by decide)]
theorem cntK_rows {f f' : FF} (hs : ∀ j, j < 7 → f' j = f j) (n q : Nat) : ∀ k, cntK f' n q k = cntK f n q k
  | 0 => rfl
  | k + 1 => by
    rw [cntK, cntK, cntK_rows hs n q k, hs 0 (by decide), hs 1 (by decide), hs 2 (by decide)]
theorem q5_makes {w a b : Int32} {post : Int32 → Prop} (h : post (mk w a b)) : Q_X5_makes w a b post := by
  unfold Q_X5_makes
  unfold mk at h
  refine ⟨fun c => ?_, fun c => ⟨fun c1 => ⟨fun c2 => ?_, fun c2 => ?_⟩, fun c1 => ⟨fun c2 => ?_, fun c2 => ⟨fun c3 => ⟨fun c4 => ?_, fun c4 => ?_⟩, fun c3 => ⟨fun c4 => ?_, fun c4 => ?_⟩⟩⟩⟩⟩ <;> simp_all
theorem q5_sourceOf {z x y : Int32} {k : Nat} {w a b : Nat → Int32} {g : FF} {u : VV} {post : Int32 → Prop} (hk : k ≤ 5) (hz : okSrc z k) (hm : ∀ j, j < k → g 12 j = tab w a b x y k j) (h : post (tab w a b x y k z.toNatClampNeg)) : Q_X5_sourceOf z x y g u post := by
  obtain ⟨j, rfl, hj⟩ := hz
  have c : (nI j).toNatClampNeg = j := nI_clamp (by omega)
  have t5 : tab w a b x y k 5 = x := tab_in (k := 0) (Nat.zero_le k) hk 5 (by unfold here; omega)
  have t6 : tab w a b x y k 6 = y := tab_in (k := 0) (Nat.zero_le k) hk 6 (by unfold here; omega)
  rw [c] at h
  unfold Q_X5_sourceOf
  refine ⟨fun c5 => ⟨fun c6 => ?_, fun c6 => ?_⟩, fun c5 => ?_⟩
  · have hj2 : j < k := by
      rcases hj with h1 | h1 | h1
      · exact h1
      · exact absurd (by rw [h1]; rfl) c5
      · exact absurd (by rw [h1]; rfl) c6
    rw [c, hm j hj2]
    exact ⟨vi_nI (by omega) (by omega), h⟩
  · rw [show (6 : Int32) = nI 6 from rfl, nI_eq (by omega) (by omega)] at c6
    rw [c6, t6] at h; exact h
  · rw [show (5 : Int32) = nI 5 from rfl, nI_eq (by omega) (by omega)] at c5
    rw [c5, t5] at h; exact h
section R5
variable {n t : Nat} {g : FF} {u : VV} {posf : Int32 → FF → VV → Prop} {post : Int32 → Prop}
theorem q5_runs_loop {x y x3 x4 : Int32} {K : Int32 → FF → VV → Prop} {g0 : FF} (hP : PI n t (sb g0 3) (sb u 2))
    (hK : ∀ x5 g, S12 g0 g → (∀ j, j < n → g 12 j = tab (wv x3 x4 (g0 3)) (g0 4) (g0 5) x y n j) → K x5 g u) :
    ∀ (d k : Nat) (g : FF), k + d = n → S12 g0 g → (∀ j, j < k → g 12 j = tab (wv x3 x4 (g0 3)) (g0 4) (g0 5) x y k j) → Q_X5_runs_L3 x y x3 x4 K (d + 1) (nI k) g u := by
  obtain ⟨hn, ht, e0, e1, hok⟩ := hP
  have e0 : u 2 = nI n := e0
  intro d
  induction d with
  | zero =>
    intro k g hk hs hm
    rw [Q_X5_runs_L3, e0]
    have : k = n := by omega
    subst this
    exact ⟨fun _ => hK _ g hs hm, fun c => absurd (Int32.le_refl _) c⟩
  | succ d ih =>
    intro k g hk hs hm
    rw [Q_X5_runs_L3, e0]
    have ck : (nI k).toNatClampNeg = k := nI_clamp (by omega)
    have vk : vp_in (nI k) 5 := vi_nI (by omega) (by omega)
    obtain ⟨o1, o2⟩ := hok k (by omega)
    have o1 : okSrc (g0 4 k) k := o1
    have o2 : okSrc (g0 5 k) k := o2
    have fin : ∀ (r : Int32) (f' : FF), r = mk (wv x3 x4 (g0 3) k) (tab (wv x3 x4 (g0 3)) (g0 4) (g0 5) x y k (g0 4 k).toNatClampNeg) (tab (wv x3 x4 (g0 3)) (g0 4) (g0 5) x y k (g0 5 k).toNatClampNeg) → f' = fu g 12 (wr (g 12) (nI k) r) → Q_X5_runs_L3 x y x3 x4 K (d + 1) (nI (k + 1)) f' u := by
      intro r f' hr ef
      refine ih (k + 1) f' (by omega) (fun j hj => by rw [ef, fu_ne hj]; exact hs j hj) (fun j hj => ?_)
      rw [ef, fu_eq]
      show upd (g 12) (nI k).toNatClampNeg r j = (if j = k then _ else _)
      rw [ck]
      by_cases hjk : j = k
      · rw [if_pos hjk, hjk, upd_eq, hr]
      · rw [if_neg hjk, upd_ne hjk]; exact hm j (by omega)
    rw [ck, hs 4 (by decide), hs 5 (by decide), hs 3 (by decide)]
    refine ⟨fun c => absurd ((le_nI (by omega) (by omega)).mp c) (by omega), fun _ => ⟨fun c => ⟨vk, vk, q5_sourceOf (by omega) o1 hm ⟨vk, q5_sourceOf (by omega) o2 hm (q5_makes ⟨vk, fun f' ef x' ex => ?_⟩)⟩⟩, fun c => ⟨vk, q5_sourceOf (by omega) o1 hm ⟨vk, q5_sourceOf (by omega) o2 hm (q5_makes ⟨vk, fun f' ef x' ex => ?_⟩)⟩⟩⟩⟩
    · rw [ex, nI_1]
      exact fin _ f' (by unfold wv; rw [if_neg c]) ef
    · rw [ex, nI_1]
      exact fin _ f' (by unfold wv; rw [if_pos c]) ef
theorem q5_runs {x y x3 x4 : Int32} (hP : PI n t (sb g 3) (sb u 2)) (h0 : 0 < n)
    (h : ∀ g', S12 g g' → (∀ j, j < n → g' 12 j = tab (wv x3 x4 (g 3)) (g 4) (g 5) x y n j) → posf (tab (wv x3 x4 (g 3)) (g 4) (g 5) x y n (n - 1)) g' u) : Q_X5_runs x y x3 x4 g u posf := by
  have hn := hP.1
  have e0 : u 2 = nI n := hP.2.2.1
  unfold Q_X5_runs
  refine ⟨n + 1, q5_runs_loop hP (fun x5 g' hs hm => ?_) n 0 g (by omega) S12.rf (fun j hj => by omega)⟩
  have e : u 2 - 1 = nI (n - 1) := by rw [e0]; exact pk_sub (a := n) (b := 1) (by omega)
  rw [e, nI_clamp (by omega), hm (n - 1) (by omega)]
  exact ⟨vi_nI (by omega) (by omega), h g' hs hm⟩
theorem wv_plain {w : Nat → Int32} {k : Nat} (hk : k < 5) : wv (-9) 0 w k = w k := if_neg ((by decide : ∀ k, k < 5 → ¬ nI k = -9) k hk)
theorem q5_plainRun {x y : Int32} (hP : PI n t (sb g 3) (sb u 2)) (h0 : 0 < n)
    (h : ∀ g', S12 g g' → (∀ j, j < n → g' 12 j = tab (g 3) (g 4) (g 5) x y n j) → posf (out (g 3) (g 4) (g 5) x y n) g' u) : Q_X5_plainRun x y g u posf := by
  have hn := hP.1
  have e : tab (wv (-9) 0 (g 3)) (g 4) (g 5) x y n = tab (g 3) (g 4) (g 5) x y n := tab_cong (fun k hk => wv_plain (by omega))
  unfold Q_X5_plainRun
  refine q5_runs hP h0 (fun g' hs hm => ?_)
  rw [e] at hm ⊢
  have := h g' hs hm
  unfold out at this
  rw [if_neg (by omega)] at this
  exact this
theorem q5_stepOf {q : Nat} (hq : q < 2 ^ 31) (h : post (nI (q / 4))) : Q_X5_stepOf (nI q) post := by
  unfold Q_X5_stepOf
  rw [i4, nI_div hq (by omega) (by omega)]
  exact h
theorem q5_otherWay {q : Nat} (hP : PI n t (sb g 3) (sb u 2)) (hq : q < 4 * n) (h : post (ow (g 3 (q / 4)) (q % 4))) : Q_X5_otherWay (nI q) g u post := by
  have hn := hP.1
  unfold Q_X5_otherWay
  refine q5_stepOf (by omega) ?_
  rw [i4, nI_mod (by omega) (by omega) (by omega), nI_clamp (by omega)]
  unfold ow at h
  refine ⟨vi_nI (by omega) (by omega), fun c => ?_, fun c => ?_⟩
  · rw [if_pos c] at h; exact h
  · rw [if_neg c] at h; exact h
theorem wv_mw {w : Nat → Int32} {q k : Nat} (hk : k < 2 ^ 31) (hq : q < 2 ^ 31) : wv (nI (q / 4)) (ow (w (q / 4)) (q % 4)) w k = mw w q k := by
  unfold wv mw fu
  by_cases h : k = q / 4
  · rw [if_pos (by rw [h]), if_pos h]
  · rw [if_neg (fun e => h ((nI_eq hk (by omega)).mp e)), if_neg h]
theorem q5_mutantRun {q : Nat} {x y : Int32} (hP : PI n t (sb g 3) (sb u 2)) (hq : q < 4 * n)
    (h : ∀ g', S12 g g' → (∀ j, j < n → g' 12 j = tab (mw (g 3) q) (g 4) (g 5) x y n j) → posf (out (mw (g 3) q) (g 4) (g 5) x y n) g' u) : Q_X5_mutantRun (nI q) x y g u posf := by
  have hn := hP.1
  unfold Q_X5_mutantRun
  refine q5_stepOf (by omega) (q5_otherWay hP hq (q5_runs hP (by omega) (fun g' hs hm => ?_)))
  have e : tab (wv (nI (q / 4)) (ow (g 3 (q / 4)) (q % 4)) (g 3)) (g 4) (g 5) x y n = tab (mw (g 3) q) (g 4) (g 5) x y n := tab_cong (fun k hk => wv_mw (by omega) (by omega))
  rw [e] at hm ⊢
  have := h g' hs hm
  unfold out at this
  rw [if_neg (by omega)] at this
  exact this
theorem PI.s12 (hP : PI n t (sb g 3) (sb u 2)) {g' : FF} (hs : S12 g g') : PI n t (sb g' 3) (sb u 2) := hP.rows (fun j hj => hs.pv j (by omega)) rfl rfl
theorem q5_kills {j q : Nat} (hP : PI n t (sb g 3) (sb u 2)) (hj : j < t) (hq : q < 4 * n) (h1 : kt' (sb g 3) n j q = true → ∀ g', S12 g g' → posf 1 g' u) (h0 : kt' (sb g 3) n j q = false → ∀ g', S12 g g' → posf 0 g' u) : Q_X5_kills (nI j) (nI q) g u posf := by
  have ht := hP.2.1
  have vj : vp_in (nI j) 7 := vi_nI (by omega) (by omega)
  have cj : (nI j).toNatClampNeg = j := nI_clamp (by omega)
  unfold Q_X5_kills
  rw [cj]
  refine ⟨vj, vj, q5_plainRun hP (by omega) (fun g1 s1 m1 => ⟨vj, vj, ?_⟩)⟩
  refine q5_mutantRun (hP.s12 s1) hq (fun g2 s2 m2 => ?_)
  rw [s1 3 (by decide), s1 4 (by decide), s1 5 (by decide), s1 8 (by decide), s1 9 (by decide)]
  have ek : kt' (sb g 3) n j q = decide (¬ out (mw (g 3) q) (g 4) (g 5) (g 8 j) (g 9 j) n = out (g 3) (g 4) (g 5) (g 8 j) (g 9 j) n) := rfl
  refine ⟨fun c => h0 (by rw [ek, decide_eq_false (not_not_intro c.symm)]) g2 (s1.tr s2), fun c => h1 (by rw [ek]; exact decide_eq_true (fun z => c z.symm)) g2 (s1.tr s2)⟩
theorem q5_infects {j q : Nat} (hP : PI n t (sb g 3) (sb u 2)) (hj : j < t) (hq : q < 4 * n) (h1 : ¬ mval (g 3) (g 4) (g 5) n (g 8 j) (g 9 j) q = tab (g 3) (g 4) (g 5) (g 8 j) (g 9 j) n (q / 4) → ∀ g', S12 g g' → posf 1 g' u) (h0 : mval (g 3) (g 4) (g 5) n (g 8 j) (g 9 j) q = tab (g 3) (g 4) (g 5) (g 8 j) (g 9 j) n (q / 4) → ∀ g', S12 g g' → posf 0 g' u) : Q_X5_infects (nI j) (nI q) g u posf := by
  have hn := hP.1
  have ht := hP.2.1
  have hok : ∀ k, k < n → okSrc (g 4 k) k ∧ okSrc (g 5 k) k := hP.2.2.2.2
  have vj : vp_in (nI j) 7 := vi_nI (by omega) (by omega)
  have cj : (nI j).toNatClampNeg = j := nI_clamp (by omega)
  have vq : vp_in (nI (q / 4)) 5 := vi_nI (by omega) (by omega)
  have cq : (nI (q / 4)).toNatClampNeg = q / 4 := nI_clamp (by omega)
  unfold Q_X5_infects
  rw [cj]
  refine ⟨vj, vj, q5_plainRun hP (by omega) (fun g1 s1 m1 => q5_stepOf (by omega) ⟨vq, fun x ex => ⟨vj, vj, q5_mutantRun (hP.s12 s1) hq (fun g2 s2 m2 => q5_stepOf (by omega) ⟨vq, ?_⟩)⟩⟩)⟩
  rw [s1 3 (by decide), s1 4 (by decide), s1 5 (by decide), s1 8 (by decide), s1 9 (by decide)] at m2
  rw [cq, m1 _ (by omega)] at ex
  rw [cq, m2 _ (by omega), ex]
  have e : tab (mw (g 3) q) (g 4) (g 5) (g 8 j) (g 9 j) n (q / 4) = mval (g 3) (g 4) (g 5) n (g 8 j) (g 9 j) q := by
    obtain ⟨o1, o2⟩ := hok (q / 4) (by omega)
    have e1 : tab (mw (g 3) q) (g 4) (g 5) (g 8 j) (g 9 j) n (q / 4) = tab (mw (g 3) q) (g 4) (g 5) (g 8 j) (g 9 j) (q / 4 + 1) (q / 4) := tab_in (by omega) hn _ (by unfold here; omega)
    rw [e1]
    show (if q / 4 = q / 4 then mk (mw (g 3) q (q / 4)) _ _ else _) = _
    rw [if_pos rfl, mw_at, tab_mw]
    unfold mval
    rw [tab_in (k := q / 4) (m := n) (by omega) hn _ (o1.here (by omega)), tab_in (k := q / 4) (m := n) (by omega) hn _ (o2.here (by omega))]
  rw [e]
  exact ⟨fun c => h0 c g2 (s1.tr s2), fun c => h1 c g2 (s1.tr s2)⟩
theorem q5_df_loop {q : Nat} {K : Int32 → Int32 → FF → VV → Prop} {g0 : FF} (hP : PI n t (sb g0 3) (sb u 2)) (hq : q < 4 * n)
    (hK : ∀ (x3 : Int32) (g : FF), S12 g0 g → K (nI (cntK (sb g0 3) n q 100)) x3 g u) :
    ∀ (d k : Nat) (g : FF), k + d = 100 → S12 g0 g → Q_X5_differs_L4 (nI q) K (d + 1) (nI (cntK (sb g0 3) n q k)) (nI k) g u := by
  have hn := hP.1
  intro d
  induction d with
  | zero =>
    intro k g hk hs
    rw [Q_X5_differs_L4]
    have hk : k = 100 := by omega
    subst hk
    exact ⟨fun _ => hK _ g hs, fun c => absurd (by decide) c⟩
  | succ d ih =>
    intro k g hk hs
    rw [Q_X5_differs_L4]
    refine ⟨fun c => ?_, fun _ => ?_⟩
    · rw [i100, le_nI (by omega) (by omega)] at c; omega
    · rw [i10, nI_mod (by omega) (by omega) (by omega), nI_div (by omega) (by omega) (by omega)]
      refine q5_plainRun (hP.s12 hs) (by omega) (fun g1 s1 m1 => q5_mutantRun ((hP.s12 hs).s12 s1) hq (fun g2 s2 m2 => ?_))
      have hs2 : S12 g0 g2 := (hs.tr s1).tr s2
      rw [s1 3 (by decide), s1 4 (by decide), s1 5 (by decide), hs 3 (by decide), hs 4 (by decide), hs 5 (by decide)]
      have := ih (k + 1) g2 (by omega) hs2
      rw [cntK] at this
      have ek : kill (sb g0 3 0) (sb g0 3 1) (sb g0 3 2) n (nI (k / 10)) (nI (k % 10)) q = decide (¬ out (mw (g0 3) q) (g0 4) (g0 5) (nI (k / 10)) (nI (k % 10)) n = out (g0 3) (g0 4) (g0 5) (nI (k / 10)) (nI (k % 10)) n) := rfl
      refine ⟨fun c x1 e1 x2 e2 => ?_, fun c x1 e1 x2 e2 => ?_⟩
      · rw [e1, e2, nI_1, nI_1]
        have hk1 : kill (sb g0 3 0) (sb g0 3 1) (sb g0 3 2) n (nI (k / 10)) (nI (k % 10)) q = true := by rw [ek]; exact decide_eq_true (fun z => c z.symm)
        rw [hk1, if_pos rfl] at this
        exact this
      · rw [e1, e2, nI_1, show ∀ z : Int32, z + 0 = z from fun z => by simp]
        rw [ek, decide_eq_false (not_not_intro c.symm), if_neg (by decide)] at this
        exact this
theorem q5_differs {q : Nat} (hP : PI n t (sb g 3) (sb u 2)) (hq : q < 4 * n) (h : ∀ g', S12 g g' → posf (nI (cntK (sb g 3) n q 100)) g' u) : Q_X5_differs (nI q) g u posf := by
  unfold Q_X5_differs
  exact ⟨101, q5_df_loop hP hq (fun _ g' hs => h g' hs) 100 0 g (by omega) S12.rf⟩
theorem q5_mutants (hP : PI n t (sb g 3) (sb u 2)) (h : post (nI (4 * n))) : Q_X5_mutants g u post := by
  unfold Q_X5_mutants
  have e0 : u 2 = nI n := hP.2.2.1
  rw [e0, i4, pk_mul]
  exact h
/-- a mutant is EQUAL -/
def eqM (f : FF) (n q : Nat) : Bool := decide (cntK f n q 100 = 0)
theorem q5_me_loop {K : Int32 → Int32 → FF → VV → Prop} {g0 : FF} (hP : PI n t (sb g0 3) (sb u 2)) (hK : ∀ (x2 : Int32) (g : FF), S12 g0 g → K (nI (fb_ct (eqM (sb g0 3) n) (4 * n))) x2 g u) :
    ∀ (d k : Nat) (g : FF), k + d = 4 * n → S12 g0 g → Q_X5_manyEqual_L4 K (d + 1) (nI (fb_ct (eqM (sb g0 3) n) k)) (nI k) g u := by
  have hn := hP.1
  intro d
  induction d with
  | zero =>
    intro k g hk hs
    rw [Q_X5_manyEqual_L4]
    refine q5_mutants (hP.s12 hs) ?_
    rw [show k = 4 * n by omega]
    exact ⟨fun _ => hK _ g hs, fun c => absurd (Int32.le_refl _) c⟩
  | succ d ih =>
    intro k g hk hs
    rw [Q_X5_manyEqual_L4]
    refine q5_mutants (hP.s12 hs) ⟨fun c => absurd ((le_nI (by omega) (by omega)).mp c) (by omega), fun _ => q5_differs (hP.s12 hs) (by omega) (fun g1 s1 => ?_)⟩
    rw [cntK_rows (f := sb g0 3) (fun j hj => hs.pv j hj)]
    have := ih (k + 1) g1 (by omega) (hs.tr s1)
    rw [fb_ct_succ] at this
    have hle := cntK_le (sb g0 3) n k 100
    refine ⟨fun c x1 e1 x2 e2 => ?_, fun c x1 e1 x2 e2 => ?_⟩
    · rw [e1, e2, nI_1, show ∀ z : Int32, z + 0 = z from fun z => by simp]
      rw [if_neg (by unfold eqM; rw [decide_eq_true_iff]; exact fun z => c (by rw [z]; rfl))] at this
      exact this
    · rw [e1, e2, nI_1, nI_1]
      rw [i0, nI_eq (by omega) (by omega)] at c
      rw [if_pos (by unfold eqM; exact decide_eq_true c)] at this
      exact this
theorem q5_manyEqual (hP : PI n t (sb g 3) (sb u 2)) (h : ∀ g', S12 g g' → posf (nI (fb_ct (eqM (sb g 3) n) (4 * n))) g' u) : Q_X5_manyEqual g u posf := by
  unfold Q_X5_manyEqual
  exact ⟨4 * n + 1, q5_me_loop hP (fun _ g' hs => h g' hs) (4 * n) 0 g (by omega) S12.rf⟩
/-- all rows but made and killers stay -/
def S123 (g g' : FF) : Prop := ∀ j, j ≠ 12 → j ≠ 13 → g' j = g j
theorem S123.rf {g : FF} : S123 g g := fun _ _ _ => rfl
theorem S123.tr {f g h : FF} (h1 : S123 f g) (h2 : S123 g h) : S123 f h := fun j a b => (h2 j a b).trans (h1 j a b)
theorem S12.up {g g' : FF} (h : S12 g g') : S123 g g' := fun j a _ => h j a
theorem S123.pv {g g' : FF} (h : S123 g g') : ∀ j, j < 7 → sb g' 3 j = sb g 3 j := fun j hj => h (3 + j) (by omega) (by omega)
theorem PI.s123 (hP : PI n t (sb g 3) (sb u 2)) {g' : FF} (hs : S123 g g') : PI n t (sb g' 3) (sb u 2) := hP.rows (fun j hj => hs.pv j (by omega)) rfl rfl
/-- which tests kill mutant q -/
def kls (g : FF) (n t q : Nat) : Int32 := bs (fun j => kt' (sb g 3) n j q) t
theorem q5_fk1_loop {q : Nat} {K : Int32 → FF → VV → Prop} {g0 : FF} {B : Nat → Int32} (hP : PI n t (sb g0 3) (sb u 2)) (hq : q < 4 * n)
    (hK : ∀ (x2 : Int32) (g : FF), S123 g0 g → g 13 = upd B q (kls g0 n t q) → K x2 g u) :
    ∀ (d k : Nat) (g : FF), k + d = t → S123 g0 g → g 13 = upd B q (bs (fun j => kt' (sb g0 3) n j q) k) → Q_X5_findKillers_L19 (nI q) K (d + 1) (nI k) g u := by
  have hn := hP.1
  have ht := hP.2.1
  have e1 : u 3 = nI t := hP.2.2.2.1
  have vq : vp_in (nI q) 20 := vi_nI (by omega) (by omega)
  have cq : (nI q).toNatClampNeg = q := nI_clamp (by omega)
  intro d
  induction d with
  | zero =>
    intro k g hk hs hb
    rw [Q_X5_findKillers_L19, e1]
    have : k = t := by omega
    subst this
    exact ⟨fun _ => hK _ g hs hb, fun c => absurd (Int32.le_refl _) c⟩
  | succ d ih =>
    intro k g hk hs hb
    rw [Q_X5_findKillers_L19, e1]
    have ekt : kt' (sb g 3) n k q = kt' (sb g0 3) n k q := kt_rows (fun j hj => hs.pv j hj) n k q
    have go : ∀ (g1 g2 : FF) (z : Int32), S12 g g1 → g2 = fu g1 13 (wr (g1 13) (nI q) ((g 13) (nI q).toNatClampNeg ||| z)) → z = (if kt' (sb g0 3) n k q = true then (1 : Int32) <<< (nI k &&& 31) else 0) → Q_X5_findKillers_L19 (nI q) K (d + 1) (nI (k + 1)) g2 u := by
      intro g1 g2 z s1 eg hz
      refine ih (k + 1) g2 (by omega) (fun j a b => by rw [eg, fu_ne b, s1 j a]; exact hs j a b) ?_
      rw [eg, fu_eq]
      show upd (g1 13) (nI q).toNatClampNeg _ = _
      rw [cq, s1 13 (by decide), hb, upd_eq, hz]
      funext j
      by_cases hj : j = q
      · rw [hj, upd_eq, upd_eq]; rfl
      · rw [upd_ne hj, upd_ne hj, upd_ne hj]
    refine ⟨fun c => absurd ((le_nI (by omega) (by omega)).mp c) (by omega), fun _ => ⟨vq, q5_kills (hP.s123 hs) (by omega) hq (fun hk1 g1 s1 => ⟨fun c => absurd c (by decide), fun _ => ⟨vq, fun g2 eg x ex => ?_⟩⟩) (fun hk0 g1 s1 => ⟨fun _ => ⟨vq, fun g2 eg x ex => ?_⟩, fun c => absurd rfl c⟩)⟩⟩
    · rw [ex, nI_1]
      rw [ekt] at hk1
      exact go g1 g2 _ s1 eg (by rw [if_pos hk1])
    · rw [ex, nI_1]
      rw [ekt] at hk0
      exact go g1 g2 _ s1 eg (by rw [if_neg (by rw [hk0]; decide)])
theorem q5_fk2_loop {K : Int32 → FF → VV → Prop} {g0 : FF} (hP : PI n t (sb g0 3) (sb u 2)) (hK : ∀ (x1 : Int32) (g : FF), S123 g0 g → (∀ q, q < 4 * n → g 13 q = kls g0 n t q) → K x1 g u) :
    ∀ (d k : Nat) (g : FF), k + d = 4 * n → S123 g0 g → (∀ q, q < k → g 13 q = kls g0 n t q) → Q_X5_findKillers_L2 K (d + 1) (nI k) g u := by
  have hn := hP.1
  intro d
  induction d with
  | zero =>
    intro k g hk hs hb
    rw [Q_X5_findKillers_L2]
    refine q5_mutants (hP.s123 hs) ⟨fun _ => hK _ g hs (fun q hq => hb q (by omega)), fun c => absurd (by rw [show k = 4 * n by omega]; exact Int32.le_refl _) c⟩
  | succ d ih =>
    intro k g hk hs hb
    rw [Q_X5_findKillers_L2]
    refine q5_mutants (hP.s123 hs) ⟨fun c => absurd ((le_nI (by omega) (by omega)).mp c) (by omega), fun _ => ⟨vi_nI (by omega) (by omega), fun g1 eg1 => ⟨t + 1, ?_⟩⟩⟩
    have ck : (nI k).toNatClampNeg = k := nI_clamp (by omega)
    have s1 : S123 g0 g1 := fun j a b => by rw [eg1, fu_ne b]; exact hs j a b
    have h13 : g1 13 = upd (g 13) k 0 := by rw [eg1, fu_eq]; show upd _ (nI k).toNatClampNeg _ = _; rw [ck]
    refine q5_fk1_loop (q := k) (g0 := g0) (B := g 13) hP (by omega) (fun x2 g2 s2 h2 x ex => ?_) t 0 g1 (by omega) s1 h13
    rw [ex, nI_1]
    refine ih (k + 1) g2 (by omega) s2 (fun q hq => ?_)
    rw [h2]
    by_cases hqk : q = k
    · rw [hqk, upd_eq]
    · rw [upd_ne hqk]; exact hb q (by omega)
theorem q5_findKillers {pos : FF → VV → Prop} (hP : PI n t (sb g 3) (sb u 2)) (h : ∀ g', S123 g g' → (∀ q, q < 4 * n → g' 13 q = kls g n t q) → pos g' u) : Q_X5_findKillers g u pos := by
  unfold Q_X5_findKillers
  exact ⟨4 * n + 1, q5_fk2_loop hP (fun _ g' hs hb => h g' hs hb) (4 * n) 0 g (by omega) S123.rf (fun q hq => by omega)⟩
end R5
