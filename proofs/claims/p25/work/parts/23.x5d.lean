section T6
variable {b L p : Nat} {g : FF} {u : VV} {post : Int32 → Prop} {posf : Int32 → FF → VV → Prop}
def dlo (e : Nat) : Int32 := if e = 1 then 1 else 0
theorem dlo_0 (e : Nat) : 0 ≤ dlo e := by unfold dlo; split <;> decide
theorem q5_dig {K0 K1 : Int32 → FF → VV → Prop} {x3 : Int32} {e k n : Nat} (he : e < 4) (hk : k < 7) (h : R5 b L p u)
    (h0 : digV (dlo e) 9 (pkv (cs (g 2) b) L p) = -1 → K0 (nI e) g u)
    (h1 : ¬ digV (dlo e) 9 (pkv (cs (g 2) b) L p) = -1 → p < L → ∀ g' u', g' 11 = upd (g 11) (4 * k + e) (digV (dlo e) 9 (pkv (cs (g 2) b) L p)) → (∀ j, j ≠ 11 → g' j = g j) → M5 b (p + 1) u u' → Q_X5_readTestNext_L86 (nI (b + L)) (nI (4 * k)) x3 K0 K1 n (nI (e + 1)) g' u') :
    Q_X5_readTestNext_L86 (nI (b + L)) (nI (4 * k)) x3 K0 K1 (n + 1) (nI e) g u := by
  have hb := h.1
  have hp := h.2.1
  rw [Q_X5_readTestNext_L86]
  rw [h.2.2, nI_add, nI_clamp (n := b + p) (by omega)]
  have vi : vp_in (nI (4 * k + e)) 28 := vi_nI (by omega) (by omega)
  refine ⟨fun c => absurd ((le_nI (a := 4) (by omega) (by omega)).mp c) (by omega), fun _ => ⟨fun c => ?_, fun c => ?_⟩⟩
  · rw [le_nI (by omega) (by omega)] at c
    refine h0 ?_
    rw [pkv_end (by omega), digV_n1 (dlo_0 e)]
    exact fun z => absurd (Int32.le_trans (dlo_0 e) z.1) (by decide)
  · rw [le_nI (by omega) (by omega)] at c
    have hl : p < L := by omega
    have vp : vp_in (nI (b + p)) 240 := vi_nI (by omega) (by omega)
    have hz : pkv (cs (g 2) b) L p = g 2 (b + p) := by rw [pkv_in hl]; rfl
    rw [hz] at h0 h1
    have T : (dlo e ≤ g 2 (b + p) - 48 ∧ g 2 (b + p) - 48 ≤ 9) → ∀ f_15 : FF, f_15 = fu g 11 (wr (g 11) (nI (4 * k + e)) (g 2 (b + p) - (48 : Int32))) → (∀ v_16 : VV, v_16 = fu u 4 (nI (b + p) + (1 : Int32)) → (∀ x_17 : Int32, x_17 = (nI e + (1 : Int32)) → (Q_X5_readTestNext_L86 (nI (b + L)) (nI (4 * k)) x3 K0 K1 n x_17 f_15 v_16))) := by
      intro hd g' eg u' eu x ex
      rw [ex, nI_1]
      refine h1 (by rw [digV_n1 (dlo_0 e)]; exact not_not_intro hd) hl g' u' ?_ (fun j hj => by rw [eg, fu_ne hj]) (m5_1 h u' eu)
      rw [eg, fu_eq]; show upd _ (nI (4 * k + e)).toNatClampNeg _ = _; rw [nI_clamp (by omega)]
      unfold digV; rw [if_pos hd]
    refine ⟨vp, fun c1 => ?_, fun c1 => ?_⟩
    · have e1 : dlo e = 0 := if_neg (fun z => c1 (by rw [z]; rfl))
      rw [e1] at T h0
      refine q5_within (fun a a2 => ⟨fun _ => ⟨vp, vi, T ((dg0 _).mp ⟨a, a2⟩)⟩, fun c => absurd c (by decide)⟩) (fun a => ⟨fun c => absurd rfl c, fun _ => h0 (by rw [digV_n1 (by decide)]; exact fun z => a ((dg0 _).mpr z))⟩)
    · have e1 : dlo e = 1 := if_pos ((nI_eq (a := e) (b := 1) (by omega) (by omega)).mp c1)
      rw [e1] at T h0
      refine q5_within (fun a a2 => ⟨fun _ => ⟨vp, vi, T ((dg1 _).mp ⟨a, a2⟩)⟩, fun c => absurd c (by decide)⟩) (fun a => ⟨fun c => absurd rfl c, fun _ => h0 (by rw [digV_n1 (by decide)]; exact fun z => a ((dg1 _).mpr z))⟩)
/-- a test's four numbers stand in the reader's row -/
def Ts4 (k : Nat) (w a c d : Int32) (g g' : FF) : Prop := g' 11 (4 * k) = w ∧ g' 11 (4 * k + 1) = a ∧ g' 11 (4 * k + 2) = c ∧ g' 11 (4 * k + 3) = d ∧ (∀ i, i < 4 * k → g' 11 i = g 11 i) ∧ ∀ j, j ≠ 11 → g' j = g j
/-- where a test's text fails behind its comma: 4, if nowhere -/
def tf1 (c : Nat → Int32) (L p : Nat) : Nat := if kIdx (pkv c L p) = -1 then 0 else if digV 1 9 (pkv c L (p + 1)) = -1 then 1 else if digV 0 9 (pkv c L (p + 2)) = -1 then 2 else if digV 0 9 (pkv c L (p + 3)) = -1 then 3 else 4
theorem q5_readTestNext {k : Nat} (hk : k < 7) (h : R5 b L p u)
    (h1 : tf1 (cs (g 2) b) L p = 4 → p + 4 ≤ L → ∀ g' u', Ts4 k (kIdx (pkv (cs (g 2) b) L p)) (digV 1 9 (pkv (cs (g 2) b) L (p + 1))) (digV 0 9 (pkv (cs (g 2) b) L (p + 2))) (digV 0 9 (pkv (cs (g 2) b) L (p + 3))) g g' → M5 b (p + 4) u u' → posf 1 g' u')
    (h0 : ∀ s, s < 4 → p + s ≤ L → tf1 (cs (g 2) b) L p = s → ∀ g' u', (∀ j, j ≠ 11 → g' j = g j) → M5 b (p + s) u u' → posf 0 g' u') :
    Q_X5_readTestNext (nI (b + L)) (nI (4 * k)) g u posf := by
  have hb := h.1
  have hp := h.2.1
  have M0 : M5 b p u u := ⟨h.2.2, fun _ _ => rfl⟩
  have vi : vp_in (nI (4 * k)) 28 := vi_nI (by omega) (by omega)
  unfold Q_X5_readTestNext
  rw [h.2.2, nI_clamp (n := b + p) (by omega), nI_clamp (n := 4 * k) (by omega)]
  have B : kIdx (pkv (cs (g 2) b) L p) = -1 → ∀ g' : FF, g' = fu g 11 (wr (g 11) (nI (4 * k)) (-9)) → g' 11 (4 * k) = -9 ∧ posf 0 g' u := by
    intro hw g' eg
    refine ⟨?_, h0 0 (by omega) (by omega) (by unfold tf1; rw [if_pos hw]) g' u (fun j hj => by rw [eg, fu_ne hj]) M0⟩
    rw [eg, fu_eq]; show upd _ (nI (4 * k)).toNatClampNeg _ _ = _; rw [nI_clamp (by omega), upd_eq]
  have A : ∀ val x33 : Int32, p < L → kIdx (pkv (cs (g 2) b) L p) = val → ¬ val = -1 → ∀ g' : FF, g' = fu g 11 (wr (g 11) (nI (4 * k)) val) → g' 11 (4 * k) = val ∧ ∀ u1 : VV, u1 = fu u 4 (nI (b + p) + 1) → (∃ n_54 : Nat, Q_X5_readTestNext_L86 (nI (b + L)) (nI (4 * k)) x33 (fun x_55 f_56 v_57 => (posf (0 : Int32) f_56 v_57)) (fun x_58 f_59 v_60 => (posf (1 : Int32) f_59 v_60)) n_54 (1 : Int32) g' u1) := by
    intro val x33 hl ev hv g' eg
    have e11 : g' 11 = upd (g 11) (4 * k) val := by
      rw [eg, fu_eq]; show upd _ (nI (4 * k)).toNatClampNeg _ = _; rw [nI_clamp (by omega)]
    have er : ∀ j, j ≠ 11 → g' j = g j := fun j hj => by rw [eg, fu_ne hj]
    refine ⟨by rw [e11, upd_eq], fun u1 eu1 => ⟨4, ?_⟩⟩
    have hw : ¬ kIdx (pkv (cs (g 2) b) L p) = -1 := by rw [ev]; exact hv
    have m1 := m5_1 h u1 eu1
    have r1 : R5 b L (p + 1) u1 := h.mv m1 (by omega)
    have g2 : g' 2 = g 2 := er 2 (by decide)
    rw [show (1 : Int32) = nI 1 from rfl]
    refine q5_dig (by omega) hk r1 ?_ ?_
    · intro s1
      rw [g2] at s1
      exact h0 1 (by omega) (by omega) (by unfold tf1; rw [if_neg hw]; exact if_pos s1) g' u1 er m1
    intro s1 hl1 g2' u2 e2 er2 m2
    rw [g2] at s1 e2
    have m2' := m1.tr m2
    have r2 : R5 b L (p + 2) u2 := r1.mv m2 (by omega)
    have er2' : ∀ j, j ≠ 11 → g2' j = g j := fun j hj => (er2 j hj).trans (er j hj)
    refine q5_dig (by omega) hk r2 ?_ ?_
    · intro s2
      rw [er2' 2 (by decide)] at s2
      exact h0 2 (by omega) (by omega) (by unfold tf1; rw [if_neg hw, if_neg (show ¬ digV 1 9 _ = _ from s1)]; exact if_pos s2) g2' u2 er2' m2'
    intro s2 hl2 g3' u3 e3 er3 m3
    rw [er2' 2 (by decide)] at s2 e3
    have m3' := m2'.tr m3
    have r3 : R5 b L (p + 3) u3 := r2.mv m3 (by omega)
    have er3' : ∀ j, j ≠ 11 → g3' j = g j := fun j hj => (er3 j hj).trans (er2' j hj)
    refine q5_dig (by omega) hk r3 ?_ ?_
    · intro s3
      rw [er3' 2 (by decide)] at s3
      exact h0 3 (by omega) (by omega) (by unfold tf1; rw [if_neg hw, if_neg (show ¬ digV 1 9 _ = _ from s1), if_neg (show ¬ digV 0 9 _ = _ from s2)]; exact if_pos s3) g3' u3 er3' m3'
    intro s3 hl3 g4' u4 e4 er4 m4
    rw [er3' 2 (by decide)] at s3 e4
    rw [Q_X5_readTestNext_L86]
    refine ⟨fun _ => h1 (by unfold tf1; rw [if_neg hw, if_neg (show ¬ digV 1 9 _ = _ from s1), if_neg (show ¬ digV 0 9 _ = _ from s2)]; exact if_neg s3) (by omega) g4' u4 ⟨?_, ?_, ?_, ?_, fun i hi => ?_, fun j hj => (er4 j hj).trans (er3' j hj)⟩ (m3'.tr m4), fun c => absurd (Int32.le_refl _) c⟩
    · rw [e4, upd_ne (by omega), e3, upd_ne (by omega), e2, upd_ne (by omega), e11, upd_eq, ev]
    · rw [e4, upd_ne (by omega), e3, upd_ne (by omega), e2, upd_eq]; rfl
    · rw [e4, upd_ne (by omega), e3, upd_eq]; rfl
    · rw [e4, upd_eq]; rfl
    · rw [e4, upd_ne (by omega), e3, upd_ne (by omega), e2, upd_ne (by omega), e11, upd_ne (by omega)]
  refine ⟨fun c => ⟨vi, fun g' eg => ⟨vi, ?_⟩⟩, fun c => ?_⟩
  · rw [le_nI (by omega) (by omega)] at c
    obtain ⟨e1, e2⟩ := B (by rw [pkv_end (by omega)]; rfl) g' eg
    rw [e1]
    exact ⟨fun c => absurd rfl c, fun _ => e2⟩
  · rw [le_nI (by omega) (by omega)] at c
    have hl : p < L := by omega
    refine ⟨vi_nI (by omega) (by omega), fun z ez => ?_⟩
    have hz : pkv (cs (g 2) b) L p = z := by rw [pkv_in hl, ez]; rfl
    rw [hz] at A B
    refine ⟨fun c1 => ⟨fun c2 => ⟨fun c3 => ⟨vi, fun g' eg => ⟨vi, ?_⟩⟩, fun c3 => ⟨vi, fun g' eg => ⟨vi, ?_⟩⟩⟩, fun c2 => ⟨vi, fun g' eg => ⟨vi, ?_⟩⟩⟩, fun c1 => ⟨vi, fun g' eg => ⟨vi, ?_⟩⟩⟩
    · obtain ⟨e1, e2⟩ := B (by unfold kIdx; rw [if_neg c1, if_neg c2, if_neg c3]) g' eg
      rw [e1]
      exact ⟨fun c => absurd rfl c, fun _ => e2⟩
    · obtain ⟨e1, e2⟩ := A 2 z hl (by unfold kIdx; rw [if_neg c1, if_neg c2, if_pos c3]) (by decide) g' eg
      rw [e1]
      exact ⟨fun _ => e2, fun c => absurd c (by decide)⟩
    · obtain ⟨e1, e2⟩ := A 1 z hl (by unfold kIdx; rw [if_neg c1, if_pos c2]) (by decide) g' eg
      rw [e1]
      exact ⟨fun _ => e2, fun c => absurd c (by decide)⟩
    · obtain ⟨e1, e2⟩ := A 0 z hl (by unfold kIdx; rw [if_pos c1]) (by decide) g' eg
      rw [e1]
      exact ⟨fun _ => e2, fun c => absurd c (by decide)⟩
end T6
