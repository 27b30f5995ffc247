/-! ===== the reference reads TEXTS ===== -/
theorem q5_within {x lo hi : Int32} {post : Int32 → Prop} (h1 : lo ≤ x → x ≤ hi → post 1) (h0 : ¬ (lo ≤ x ∧ x ≤ hi) → post 0) : Q_X5_within x lo hi post := by
  unfold Q_X5_within
  refine ⟨fun c => h0 (fun z => absurd z.1 (Int32.not_le.mpr c)), fun c => ⟨fun c2 => h0 (fun z => absurd z.2 (Int32.not_le.mpr c2)), fun c2 => h1 (Int32.not_lt.mp c) (Int32.not_lt.mp c2)⟩⟩
theorem dgI (z lo hi lo' hi' : Int32) (h1 : lo'.toInt = lo.toInt + 48) (h2 : hi'.toInt = hi.toInt + 48) (b1 : -1 ≤ lo.toInt) (b2 : lo.toInt ≤ 100) (b3 : -1 ≤ hi.toInt) (b4 : hi.toInt ≤ 100) : (lo' ≤ z ∧ z ≤ hi') ↔ (lo ≤ z - 48 ∧ z - 48 ≤ hi) := by
  have e48 : (48 : Int32).toInt = 48 := rfl
  have l1 := z.toInt_lt
  have l2 := z.le_toInt
  simp only [Int32.le_iff_toInt_le, Int32.toInt_sub, e48, Int.bmod]
  split <;> omega
theorem k47 : ∀ k, k < 6 → ((47 : Int32) + nI k).toInt = (nI k - 1).toInt + 48 ∧ -1 ≤ (nI k - 1).toInt ∧ (nI k - 1).toInt ≤ 100 := by decide +kernel
theorem dg5 (z : Int32) {k : Nat} (hk : k < 6) : (48 ≤ z ∧ z ≤ 47 + nI k) ↔ (0 ≤ z - 48 ∧ z - 48 ≤ nI k - 1) :=
  dgI z 0 (nI k - 1) 48 (47 + nI k) rfl (k47 k hk).1 (by decide) (by decide) (k47 k hk).2.1 (k47 k hk).2.2
theorem dg0 (z : Int32) : (48 ≤ z ∧ z ≤ 57) ↔ (0 ≤ z - 48 ∧ z - 48 ≤ 9) := dgI z 0 9 48 57 rfl rfl (by decide) (by decide) (by decide) (by decide)
theorem dg1 (z : Int32) : (49 ≤ z ∧ z ≤ 57) ↔ (1 ≤ z - 48 ∧ z - 48 ≤ 9) := dgI z 1 9 49 57 rfl rfl (by decide) (by decide) (by decide) (by decide)
theorem digV_9 {lo hi z : Int32} (hlo : 0 ≤ lo) : ¬ digV lo hi z = -9 := by
  unfold digV
  split
  · rename_i h
    intro e
    have := Int32.le_trans hlo h.1
    rw [e] at this
    exact absurd this (by decide)
  · decide
theorem srcV_9 (z : Int32) (k : Nat) : ¬ srcV z k = -9 := by
  unfold srcV
  split
  · decide
  · split
    · decide
    · exact digV_9 (by decide)
theorem digV_n1 {lo hi z : Int32} (hlo : 0 ≤ lo) : digV lo hi z = -1 ↔ ¬ (lo ≤ z - 48 ∧ z - 48 ≤ hi) := by
  unfold digV
  split
  · rename_i h
    constructor
    · intro e
      have := Int32.le_trans hlo h.1
      rw [e] at this
      exact absurd this (by decide)
    · intro c; exact absurd h c
  · rename_i h; exact ⟨fun _ => h, fun _ => rfl⟩
theorem srcV_ok {z : Int32} {k : Nat} (hk : k < 6) (h : ¬ srcV z k = -1) : okSrc (srcV z k) k := by
  unfold srcV at h ⊢
  split
  · exact ⟨5, rfl, by omega⟩
  · rename_i h1
    rw [if_neg h1] at h
    split
    · exact ⟨6, rfl, by omega⟩
    · rename_i h2
      rw [if_neg h2, digV_n1 (by decide)] at h
      have h := Classical.not_not.mp h
      unfold digV
      rw [if_pos h]
      rcases Nat.eq_zero_or_pos k with rfl | hk0
      · exact absurd (Int32.le_trans h.1 h.2) (by decide)
      · obtain ⟨j, hj, ej⟩ := nI_rng (p := z - 48) (n := k) (by omega) (Int32.not_lt.mpr h.1) (fun c => by
          have c1 := Int32.le_trans c h.2
          rw [Int32.le_iff_toInt_le] at c1
          have := (show ∀ k, k < 6 → 0 < k → ¬ (nI k).toInt ≤ (nI k - 1).toInt by decide +kernel) k hk hk0
          exact this c1)
        exact ⟨j, ej, Or.inl hj⟩
/-- the reference reads from cell b on, L cells, and is at p -/
def R5 (b L p : Nat) (u : VV) : Prop := b + L ≤ 240 ∧ p ≤ L ∧ u 4 = nI (b + p)
def M5 (b p : Nat) (u u' : VV) : Prop := u' 4 = nI (b + p) ∧ ∀ i, i ≠ 4 → u' i = u i
def cs (c : Nat → Int32) (b : Nat) : Nat → Int32 := fun j => c (b + j)
theorem R5.mv {b L p p' : Nat} {u u' : VV} (h : R5 b L p u) (hm : M5 b p' u u') (hp : p' ≤ L) : R5 b L p' u' := ⟨h.1, hp, hm.1⟩
theorem M5.tr {b p q : Nat} {v v' v'' : VV} (h : M5 b p v v') (h2 : M5 b q v' v'') : M5 b q v v'' := ⟨h2.1, fun i hi => (h2.2 i hi).trans (h.2 i hi)⟩
section T5
variable {b L p : Nat} {g : FF} {u : VV} {post : Int32 → Prop} {posf : Int32 → FF → VV → Prop}
theorem m5_1 (h : R5 b L p u) : ∀ u' : VV, u' = fu u 4 (nI (b + p) + 1) → M5 b (p + 1) u u' := fun u' e => ⟨by rw [e, fu_eq, nI_1]; rfl, fun i hi => by rw [e, fu_ne hi]⟩
theorem pkv_in {c : Nat → Int32} (h : p < L) : pkv c L p = c p := if_pos h
theorem pkv_end {c : Nat → Int32} (h : ¬ p < L) : pkv c L p = -1 := if_neg h
theorem q5_isSign {code : Int32} (hc : ¬ code = -1) (h : R5 b L p u) (h1 : pkv (cs (g 2) b) L p = code → p < L → ∀ u', M5 b (p + 1) u u' → posf 1 g u') (h0 : ¬ pkv (cs (g 2) b) L p = code → posf 0 g u) : Q_X5_isSign (nI (b + L)) code g u posf := by
  have hb := h.1
  have hp := h.2.1
  unfold Q_X5_isSign
  rw [h.2.2, nI_clamp (by omega)]
  refine ⟨fun c => h0 ?_, fun c => ?_⟩
  · rw [le_nI (by omega) (by omega)] at c
    rw [pkv_end (by omega)]; exact fun e => hc e.symm
  · rw [le_nI (by omega) (by omega)] at c
    have hl : p < L := by omega
    rw [pkv_in hl] at h1 h0
    exact ⟨vi_nI (by omega) (by omega), fun e u' eu => h1 e hl u' (m5_1 h u' eu), fun e => h0 e⟩
theorem q5_wayBy {z : Int32} (h : post (if wIdx z = -1 then -9 else wIdx z)) : Q_X5_wayBy z post := by
  unfold Q_X5_wayBy
  unfold wIdx at h
  refine ⟨fun c => ?_, fun c => ⟨fun c2 => ?_, fun c2 => ⟨fun c3 => ?_, fun c3 => ⟨fun c4 => ?_, fun c4 => ⟨fun c5 => ?_, fun c5 => ?_⟩⟩⟩⟩⟩
  · rw [c] at h; exact h
  · rw [c2] at h; exact h
  · rw [c3] at h; exact h
  · rw [c4] at h; exact h
  · rw [c5] at h; exact h
  · rw [if_neg c, if_neg c5, if_neg c4, if_neg c2, if_neg c3] at h; exact h
theorem q5_src {K0 K1 : Int32 → FF → VV → Prop} {e k n : Nat} (he : e < 3) (hk : k < 5) (h : R5 b L p u) (h5 : u 5 = nI k)
    (h0 : srcV (pkv (cs (g 2) b) L p) k = -1 → ∀ g', g' 10 = upd (g 10) (3 * k + e) (-9) → (∀ j, j ≠ 10 → g' j = g j) → K0 (nI e) g' u)
    (h1 : ¬ srcV (pkv (cs (g 2) b) L p) k = -1 → p < L → ∀ g' u', g' 10 = upd (g 10) (3 * k + e) (srcV (pkv (cs (g 2) b) L p) k) → (∀ j, j ≠ 10 → g' j = g j) → M5 b (p + 1) u u' → Q_X5_readStepNext_L56 (nI (b + L)) (nI (3 * k)) K0 K1 n (nI (e + 1)) g' u') :
    Q_X5_readStepNext_L56 (nI (b + L)) (nI (3 * k)) K0 K1 (n + 1) (nI e) g u := by
  have hb := h.1
  have hp := h.2.1
  rw [Q_X5_readStepNext_L56]
  rw [h.2.2, h5, nI_add, nI_clamp (n := b + p) (by omega), nI_clamp (n := 3 * k + e) (by omega)]
  have vi : vp_in (nI (3 * k + e)) 15 := vi_nI (by omega) (by omega)
  have T : ∀ val : Int32, (srcV (pkv (cs (g 2) b) L p) k = -1 ∧ val = -9) ∨ (¬ srcV (pkv (cs (g 2) b) L p) k = -1 ∧ p < L ∧ val = srcV (pkv (cs (g 2) b) L p) k) →
      (vp_in (nI (3 * k + e)) 15 ∧ (∀ f_12 : FF, f_12 = fu g 10 (wr (g 10) (nI (3 * k + e)) val) → (vp_in (nI (3 * k + e)) 15 ∧ (((¬ ((f_12 10) (3 * k + e)) = (-9 : Int32) → (∀ v_15 : VV, v_15 = fu u 4 (nI (b + p) + (1 : Int32)) → (∀ x_16 : Int32, x_16 = (nI e + (1 : Int32)) → (Q_X5_readStepNext_L56 (nI (b + L)) (nI (3 * k)) K0 K1 n x_16 f_12 v_15)))) ∧ (((f_12 10) (3 * k + e)) = (-9 : Int32) → (K0 (nI e) f_12 u))))))) := by
    intro val hv
    refine ⟨vi, fun g' eg => ⟨vi, ?_⟩⟩
    have e10 : g' 10 = upd (g 10) (3 * k + e) val := by
      rw [eg, fu_eq]; show upd _ (nI (3 * k + e)).toNatClampNeg _ = _; rw [nI_clamp (by omega)]
    have er : ∀ j, j ≠ 10 → g' j = g j := fun j hj => by rw [eg, fu_ne hj]
    rw [e10, upd_eq]
    rcases hv with ⟨a, rfl⟩ | ⟨a, a2, rfl⟩
    · exact ⟨fun c => absurd rfl c, fun _ => h0 a g' e10 er⟩
    · refine ⟨fun _ u' eu x ex => ?_, fun c => absurd c (srcV_9 _ _)⟩
      rw [ex, nI_1]
      exact h1 a a2 g' u' e10 er (m5_1 h u' eu)
  refine ⟨fun c => absurd ((le_nI (a := 3) (by omega) (by omega)).mp c) (by omega), fun _ => ⟨fun c => ?_, fun c => ?_⟩⟩
  · rw [le_nI (by omega) (by omega)] at c
    have hpe : pkv (cs (g 2) b) L p = -1 := pkv_end (by omega)
    refine q5_within (fun a _ => absurd a (by decide)) (fun _ => ⟨fun _ => T _ (Or.inl ⟨?_, rfl⟩), fun c => absurd rfl c⟩)
    rw [hpe]
    unfold srcV
    rw [if_neg (by decide), if_neg (by decide), digV_n1 (by decide)]
    exact fun z => absurd z.1 (by decide)
  · rw [le_nI (by omega) (by omega)] at c
    have hl : p < L := by omega
    refine ⟨vi_nI (by omega) (by omega), fun z ez => ?_⟩
    have hz : pkv (cs (g 2) b) L p = z := by rw [pkv_in hl, ez]; rfl
    rw [hz] at T
    unfold srcV at T
    refine ⟨fun c1 => ⟨fun c2 => q5_within (fun a a2 => ⟨fun c => absurd c (by decide), fun _ => T _ (Or.inr ?_)⟩) (fun a => ⟨fun _ => T _ (Or.inl ?_), fun c => absurd rfl c⟩), fun c2 => T _ (Or.inr ?_)⟩, fun c1 => T _ (Or.inr ?_)⟩
    · rw [if_neg c1, if_neg c2]
      have a3 := (dg5 z (by omega)).mp ⟨a, a2⟩
      rw [digV_n1 (by decide)]
      exact ⟨not_not_intro a3, hl, by unfold digV; rw [if_pos a3]⟩
    · rw [if_neg c1, if_neg c2, digV_n1 (by decide)]
      exact ⟨fun a3 => a ((dg5 z (by omega)).mpr a3), rfl⟩
    · rw [if_neg c1, if_pos c2]; exact ⟨by decide, hl, rfl⟩
    · rw [if_pos c1]; exact ⟨by decide, hl, rfl⟩
/-- a step's three numbers stand in the reader's row -/
def St3 (k : Nat) (w a c : Int32) (g g' : FF) : Prop := g' 10 (3 * k) = w ∧ g' 10 (3 * k + 1) = a ∧ g' 10 (3 * k + 2) = c ∧ (∀ i, i < 3 * k → g' 10 i = g 10 i) ∧ ∀ j, j ≠ 10 → g' j = g j
theorem q5_readStepNext {k : Nat} (hk : k < 5) (h : R5 b L p u) (h5 : u 5 = nI k)
    (h1 : ¬ wIdx (pkv (cs (g 2) b) L p) = -1 → ¬ srcV (pkv (cs (g 2) b) L (p + 1)) k = -1 → ¬ srcV (pkv (cs (g 2) b) L (p + 2)) k = -1 → p + 3 ≤ L → ∀ g' u', St3 k (wIdx (pkv (cs (g 2) b) L p)) (srcV (pkv (cs (g 2) b) L (p + 1)) k) (srcV (pkv (cs (g 2) b) L (p + 2)) k) g g' → M5 b (p + 3) u u' → posf 1 g' u')
    (h0 : ∀ s, s < 3 → p + s ≤ L → (s = 0 → wIdx (pkv (cs (g 2) b) L p) = -1) → (0 < s → ¬ wIdx (pkv (cs (g 2) b) L p) = -1) → (s = 1 → srcV (pkv (cs (g 2) b) L (p + 1)) k = -1) → (1 < s → ¬ srcV (pkv (cs (g 2) b) L (p + 1)) k = -1) → (s = 2 → srcV (pkv (cs (g 2) b) L (p + 2)) k = -1) → ∀ g' u', (∀ j, j ≠ 10 → g' j = g j) → M5 b (p + s) u u' → posf 0 g' u') :
    Q_X5_readStepNext (nI (b + L)) (nI (3 * k)) g u posf := by
  have hb := h.1
  have hp := h.2.1
  have M0 : M5 b p u u := ⟨h.2.2, fun _ _ => rfl⟩
  have vi : vp_in (nI (3 * k)) 15 := vi_nI (by omega) (by omega)
  unfold Q_X5_readStepNext
  rw [h.2.2, nI_clamp (n := b + p) (by omega), nI_clamp (n := 3 * k) (by omega)]
  refine ⟨fun c => ⟨vi, fun g' eg => ⟨vi, ?_⟩⟩, fun c => ⟨vi_nI (by have c1 := c; rw [le_nI (by omega) (by omega)] at c1; omega) (by omega), q5_wayBy ⟨vi, fun g' eg => ⟨vi, ?_⟩⟩⟩⟩
  · rw [le_nI (by omega) (by omega)] at c
    have e10 : g' 10 (3 * k) = -9 := by
      rw [eg, fu_eq]; show upd _ (nI (3 * k)).toNatClampNeg _ _ = _; rw [nI_clamp (by omega), upd_eq]
    rw [e10]
    refine ⟨fun c => absurd rfl c, fun _ => h0 0 (by omega) (by omega) (fun _ => ?_) (fun z => absurd z (by decide)) (fun z => absurd z (by decide)) (fun z => absurd z (by decide)) (fun z => absurd z (by decide)) g' u (fun j hj => by rw [eg, fu_ne hj]) M0⟩
    rw [pkv_end (by omega)]; rfl
  · rw [le_nI (by omega) (by omega)] at c
    have hl : p < L := by omega
    have hz : g 2 (b + p) = pkv (cs (g 2) b) L p := by rw [pkv_in hl]; rfl
    rw [hz] at eg
    have e10 : g' 10 = upd (g 10) (3 * k) (if wIdx (pkv (cs (g 2) b) L p) = -1 then -9 else wIdx (pkv (cs (g 2) b) L p)) := by
      rw [eg, fu_eq]; show upd _ (nI (3 * k)).toNatClampNeg _ = _; rw [nI_clamp (by omega)]
    have er : ∀ j, j ≠ 10 → g' j = g j := fun j hj => by rw [eg, fu_ne hj]
    by_cases hw : wIdx (pkv (cs (g 2) b) L p) = -1
    · rw [if_pos hw] at e10
      rw [e10, upd_eq]
      exact ⟨fun c => absurd rfl c, fun _ => h0 0 (by omega) (by omega) (fun _ => hw) (fun z => absurd z (by decide)) (fun z => absurd z (by decide)) (fun z => absurd z (by decide)) (fun z => absurd z (by decide)) g' u er M0⟩
    · rw [if_neg hw] at e10
      rw [e10, upd_eq]
      have w9 : ¬ wIdx (pkv (cs (g 2) b) L p) = -9 := by unfold wIdx; repeat' split
                                                         all_goals decide
      refine ⟨fun _ u1 eu1 => ⟨3, ?_⟩, fun c => absurd c w9⟩
      have m1 := m5_1 h u1 eu1
      have r1 : R5 b L (p + 1) u1 := h.mv m1 (by omega)
      have g2 : g' 2 = g 2 := er 2 (by decide)
      rw [show (1 : Int32) = nI 1 from rfl]
      refine q5_src (by omega) hk r1 (by rw [m1.2 5 (by decide)]; exact h5) ?_ ?_
      · intro s1 g2' e2 er2
        rw [g2] at s1
        exact h0 1 (by omega) (by omega) (fun z => absurd z (by decide)) (fun _ => hw) (fun _ => s1) (fun z => absurd z (by decide)) (fun z => absurd z (by decide)) g2' u1 (fun j hj => (er2 j hj).trans (er j hj)) m1
      · intro s1 hl1 g2' u2 e2 er2 m2
        rw [g2] at s1 e2
        have m2' := m1.tr m2
        have r2 : R5 b L (p + 2) u2 := r1.mv m2 (by omega)
        have g22 : g2' 2 = g 2 := (er2 2 (by decide)).trans g2
        refine q5_src (by omega) hk r2 (by rw [m2'.2 5 (by decide)]; exact h5) ?_ ?_
        · intro s2 g3' e3 er3
          rw [g22] at s2
          exact h0 2 (by omega) (by omega) (fun z => absurd z (by decide)) (fun _ => hw) (fun z => absurd z (by decide)) (fun _ => s1) (fun _ => s2) g3' u2 (fun j hj => (er3 j hj).trans ((er2 j hj).trans (er j hj))) m2'
        · intro s2 hl2 g3' u3 e3 er3 m3
          rw [g22] at s2 e3
          rw [Q_X5_readStepNext_L56]
          refine ⟨fun _ => h1 hw s1 s2 (by omega) g3' u3 ⟨?_, ?_, ?_, fun i hi => ?_, fun j hj => (er3 j hj).trans ((er2 j hj).trans (er j hj))⟩ (m2'.tr m3), fun c => absurd (Int32.le_refl _) c⟩
          · rw [e3, upd_ne (by omega), e2, upd_ne (by omega), e10, upd_eq]
          · rw [e3, upd_ne (by omega), e2, upd_eq]
          · rw [e3, upd_eq]
          · rw [e3, upd_ne (by omega), e2, upd_ne (by omega), e10, upd_ne (by omega)]
end T5
