section T7
variable {b L : Nat} {c : Nat → Int32} {g0 : FF} {u0 : VV}
/-- k steps are read -/
def SS5 (c : Nat → Int32) (b L k : Nat) (g0 g : FF) (u0 u : VV) : Prop := R5 b L (1 + 4 * k) u ∧ u 5 = nI k ∧ (∀ i, i ≠ 4 → i ≠ 5 → u i = u0 i) ∧ (∀ j, j ≠ 10 → g j = g0 j) ∧ SRow c L k (fun i => g 10 (3 * i)) (fun i => g 10 (3 * i + 1)) (fun i => g 10 (3 * i + 2)) ∧ (∀ i, i < k → sf c L (1 + 4 * i) i = 4)
theorem rs5 {k : Nat} {g : FF} {u : VV} {N K : FF → VV → Prop} (hc : c = cs (g0 2) b) (hk : k < 5) (h : SS5 c b L k g0 g u0 u) (hN : ∀ g' u', SS5 c b L (k + 1) g0 g' u0 u' → N g' u')
    (h0 : ∀ s g' u', sf c L (1 + 4 * k) k = s → s < 4 → R5 b L (1 + 4 * k + s) u' → (∀ i, i ≠ 4 → i ≠ 5 → u' i = u0 i) → (∀ j, j ≠ 10 → g' j = g0 j) → K g' u') :
    Q_X5_isSign (nI (b + L)) (59 : Int32) g u (fun r f1 v1 => (((r = 0 → (K f1 v1)) ∧ (¬ r = 0 → (Q_X5_readStepNext (nI (b + L)) ((3 : Int32) * (v1 5)) f1 v1 (fun r2 f2 v2 => (((¬ r2 = 0 → (∀ v3 : VV, v3 = fu v2 5 ((v2 5) + (1 : Int32)) → N f2 v3)) ∧ (r2 = 0 → (K f2 v2)))))))))) := by
  obtain ⟨hR, h5, hu, hg, hr, hs⟩ := h
  have hb := hR.1
  have hp := hR.2.1
  have hg2 : cs (g 2) b = c := by rw [hg 2 (by decide), hc]
  refine q5_isSign (by decide) hR (fun e hl u1 m1 => ⟨fun c => absurd c (by decide), fun _ => ?_⟩) (fun e => ⟨fun _ => ?_, fun c => absurd rfl c⟩)
  · have k1 : u1 5 = nI k := by rw [m1.2 5 (by decide)]; exact h5
    rw [hg2] at e
    rw [k1, show (3 : Int32) * nI k = nI (3 * k) from by rw [show (3 : Int32) = nI 3 from rfl, pk_mul]]
    refine q5_readStepNext hk (hR.mv m1 (by omega)) k1 ?_ ?_
    · rw [hg2]
      intro w1 w2 w3 hl3 g' u' hS hM
      refine ⟨fun _ u3 eu3 => hN g' u3 ⟨⟨hb, by omega, ?_⟩, ?_, fun i i4 i5 => ?_, fun j hj => ?_, fun i hi => ?_, fun i hi => ?_⟩, fun c => absurd c (by decide)⟩
      · rw [eu3, fu_ne (by decide), hM.1]; congr 1
      · rw [eu3, fu_eq, hM.2 5 (by decide), k1, nI_1]
      · rw [eu3, fu_ne i5, hM.2 i i4, m1.2 i i4, hu i i4 i5]
      · rw [hS.2.2.2.2 j hj, hg j hj]
      · rcases Nat.lt_succ_iff_lt_or_eq.mp hi with hi | rfl
        · obtain ⟨a1, a2, a3⟩ := hr i hi
          exact ⟨(hS.2.2.2.1 _ (by omega)).trans a1, (hS.2.2.2.1 _ (by omega)).trans a2, (hS.2.2.2.1 _ (by omega)).trans a3⟩
        · exact ⟨hS.1, hS.2.1, hS.2.2.1⟩
      · rcases Nat.lt_succ_iff_lt_or_eq.mp hi with hi | rfl
        · exact hs i hi
        · unfold sf; rw [if_neg (not_not_intro e), if_neg w1, if_neg w2]; exact if_neg w3
    · rw [hg2]
      intro s s3 hl3 a1 a2 a3 a4 a5 g' u' hgj hM
      refine ⟨fun c => absurd rfl c, fun _ => h0 (1 + s) g' u' ?_ (by omega) ⟨hb, by omega, ?_⟩ (fun i i4 i5 => by rw [hM.2 i i4, m1.2 i i4, hu i i4 i5]) (fun j hj => by rw [hgj j hj, hg j hj])⟩
      · unfold sf; rw [if_neg (not_not_intro e)]
        match s, s3 with
        | 0, _ => rw [if_pos (a1 rfl)]
        | 1, _ => rw [if_neg (a2 (by decide))]; exact if_pos (a3 rfl)
        | 2, _ => rw [if_neg (a2 (by decide))]; rw [if_neg (show ¬ srcV (pkv c L (1 + 4 * k + 2)) k = -1 from a4 (by decide))]; exact if_pos (a5 rfl)
      · rw [hM.1]; congr 1; omega
  · rw [hg2] at e
    exact h0 0 g u (by unfold sf; rw [if_pos e]) (by decide) hR hu hg
theorem q5_rs_loop {K0 K1 : FF → VV → Prop} (hc : c = cs (g0 2) b)
    (hB : ∀ k s g' u', SBAD c L k s → R5 b L (1 + 4 * k + s) u' → (∀ i, i ≠ 4 → i ≠ 5 → u' i = u0 i) → (∀ j, j ≠ 10 → g' j = g0 j) → K0 g' u')
    (hE : ∀ n g' u', SOK c L n → SS5 c b L n g0 g' u0 u' → K1 g' u') :
    ∀ (d k : Nat) (g : FF) (u : VV), k + d = 5 → SS5 c b L k g0 g u0 u → Q_X5_readAll_L22 (nI (b + L)) K0 K1 (d + 1) g u := by
  intro d
  induction d with
  | zero =>
    intro k g u hk h
    rw [Q_X5_readAll_L22]
    have hk : k = 5 := by omega
    subst hk
    rw [h.2.1]
    exact ⟨fun c => absurd c (by decide), fun _ => ⟨fun _ => hE 5 g u ⟨by decide, by decide, h.2.2.2.2.2, Or.inl rfl⟩ h, fun c => absurd (by decide) c⟩⟩
  | succ d ih =>
    intro k g u hk h
    rw [Q_X5_readAll_L22]
    have hR := h.1
    have hb := hR.1
    have hp := hR.2.1
    have hg2 : g 2 = g0 2 := h.2.2.2.1 2 (by decide)
    refine ⟨fun c0 => ?_, fun c0 => ?_⟩
    · rw [h.2.1] at c0
      have hk0 : k = 0 := (nI_eq (a := k) (b := 0) (by omega) (by omega)).mp c0
      exact rs5 hc (by omega) h (fun g' u' h' => ih (k + 1) g' u' (by omega) h') (fun s g' u' e1 e2 e3 e4 e5 => hB k s g' u' ⟨by omega, h.2.2.2.2.2, Or.inl hk0, e1, e2⟩ e3 e4 e5)
    · have hk0 : k ≠ 0 := fun z => c0 (by rw [h.2.1, z]; rfl)
      refine ⟨fun c1 => ?_, fun _ => ⟨fun c1 => ?_, fun c1 => ?_⟩⟩
      · rw [h.2.1] at c1
        exact absurd ((le_nI (a := 5) (by omega) (by omega)).mp c1) (by omega)
      · rw [hR.2.2, le_nI (by omega) (by omega)] at c1
        refine hE k g u ⟨by omega, by omega, h.2.2.2.2.2, Or.inr ?_⟩ h
        rw [pkv_end (by omega)]; decide
      · have c2 := c1
        rw [hR.2.2, le_nI (by omega) (by omega)] at c2
        have hl : 1 + 4 * k < L := by omega
        have hz : g 2 (u 4).toNatClampNeg = pkv c L (1 + 4 * k) := by rw [hR.2.2, nI_clamp (by omega), pkv_in hl, hc, hg2]; rfl
        rw [hz]
        refine ⟨by rw [hR.2.2]; exact vi_nI (by omega) (by omega), fun c3 => hE k g u ⟨by omega, by omega, h.2.2.2.2.2, Or.inr c3⟩ h, fun c3 => ?_⟩
        exact rs5 hc (by omega) h (fun g' u' h' => ih (k + 1) g' u' (by omega) h') (fun s g' u' e1 e2 e3 e4 e5 => hB k s g' u' ⟨by omega, h.2.2.2.2.2, Or.inr c3, e1, e2⟩ e3 e4 e5)
/-- j tests are read -/
def ST5 (c : Nat → Int32) (b L q j : Nat) (g0 g : FF) (u0 u : VV) : Prop := R5 b L (q + 5 * j) u ∧ u 6 = nI j ∧ (∀ i, i ≠ 4 → i ≠ 6 → u i = u0 i) ∧ (∀ j, j ≠ 11 → g j = g0 j) ∧ TRow c L q j (fun i => g 11 (4 * i)) (fun i => g 11 (4 * i + 1)) (fun i => g 11 (4 * i + 2)) (fun i => g 11 (4 * i + 3)) ∧ (∀ i, i < j → tf c L (q + 5 * i) = 5)
theorem tf_1 {p : Nat} (e : pkv c L p = 44) : tf c L p = 1 + tf1 c L (p + 1) := by
  unfold tf tf1
  rw [if_neg (not_not_intro e)]
  split
  · rfl
  · show (if digV 1 9 (pkv c L (p + 2)) = -1 then _ else _) = 1 + (if digV 1 9 (pkv c L (p + 2)) = -1 then _ else _)
    split
    · rfl
    · show (if digV 0 9 (pkv c L (p + 3)) = -1 then _ else _) = 1 + (if digV 0 9 (pkv c L (p + 3)) = -1 then _ else _)
      split
      · rfl
      · show (if digV 0 9 (pkv c L (p + 4)) = -1 then _ else _) = 1 + (if digV 0 9 (pkv c L (p + 4)) = -1 then _ else _)
        split <;> rfl
theorem ts5 {q j : Nat} {g : FF} {u : VV} {N K : FF → VV → Prop} (hc : c = cs (g0 2) b) (hj : j < 7) (h : ST5 c b L q j g0 g u0 u) (hN : ∀ g' u', ST5 c b L q (j + 1) g0 g' u0 u' → N g' u')
    (h0 : ∀ s g' u', tf c L (q + 5 * j) = s → s < 5 → (s = 0 → ¬ pkv c L (q + 5 * j) = 44) → (0 < s → pkv c L (q + 5 * j) = 44) → R5 b L (q + 5 * j + s) u' → (∀ i, i ≠ 4 → i ≠ 6 → u' i = u0 i) → (∀ j, j ≠ 11 → g' j = g0 j) → K g' u') :
    Q_X5_isSign (nI (b + L)) (44 : Int32) g u (fun r f1 v1 => (((r = 0 → (K f1 v1)) ∧ (¬ r = 0 → (Q_X5_readTestNext (nI (b + L)) ((4 : Int32) * (v1 6)) f1 v1 (fun r2 f2 v2 => (((¬ r2 = 0 → (∀ v3 : VV, v3 = fu v2 6 ((v2 6) + (1 : Int32)) → N f2 v3)) ∧ (r2 = 0 → (K f2 v2)))))))))) := by
  obtain ⟨hR, h6, hu, hg, hr, hs⟩ := h
  have hb := hR.1
  have hp := hR.2.1
  have hg2 : cs (g 2) b = c := by rw [hg 2 (by decide), hc]
  refine q5_isSign (by decide) hR (fun e hl u1 m1 => ⟨fun c => absurd c (by decide), fun _ => ?_⟩) (fun e => ⟨fun _ => ?_, fun c => absurd rfl c⟩)
  · have k1 : u1 6 = nI j := by rw [m1.2 6 (by decide)]; exact h6
    rw [hg2] at e
    rw [k1, show (4 : Int32) * nI j = nI (4 * j) from by rw [show (4 : Int32) = nI 4 from rfl, pk_mul]]
    refine q5_readTestNext hj (hR.mv m1 (by omega)) ?_ ?_
    · rw [hg2]
      intro w1 hl3 g' u' hS hM
      refine ⟨fun _ u3 eu3 => hN g' u3 ⟨⟨hb, by omega, ?_⟩, ?_, fun i i4 i5 => ?_, fun j hj => ?_, fun i hi => ?_, fun i hi => ?_⟩, fun c => absurd c (by decide)⟩
      · rw [eu3, fu_ne (by decide), hM.1]; congr 1
      · rw [eu3, fu_eq, hM.2 6 (by decide), k1, nI_1]
      · rw [eu3, fu_ne i5, hM.2 i i4, m1.2 i i4, hu i i4 i5]
      · rw [hS.2.2.2.2.2 j hj, hg j hj]
      · rcases Nat.lt_succ_iff_lt_or_eq.mp hi with hi | rfl
        · obtain ⟨a1, a2, a3, a4⟩ := hr i hi
          have hz := hS.2.2.2.2.1
          exact ⟨(hz _ (by omega)).trans a1, (hz _ (by omega)).trans a2, (hz _ (by omega)).trans a3, (hz _ (by omega)).trans a4⟩
        · exact ⟨hS.1, hS.2.1, hS.2.2.1, hS.2.2.2.1⟩
      · rcases Nat.lt_succ_iff_lt_or_eq.mp hi with hi | rfl
        · exact hs i hi
        · rw [tf_1 e, w1]
    · rw [hg2]
      intro s s3 hl3 a1 g' u' hgj hM
      refine ⟨fun c => absurd rfl c, fun _ => h0 (1 + s) g' u' (by rw [tf_1 e, a1]) (by omega) (fun z => by omega) (fun _ => e) ⟨hb, by omega, ?_⟩ (fun i i4 i5 => by rw [hM.2 i i4, m1.2 i i4, hu i i4 i5]) (fun j hj => by rw [hgj j hj, hg j hj])⟩
      rw [hM.1]; congr 1; omega
  · rw [hg2] at e
    exact h0 0 g u (by unfold tf; rw [if_pos e]) (by decide) (fun _ => e) (fun z => absurd z (by decide)) hR hu hg
theorem q5_rt_loop {q : Nat} {K0 K1 : FF → VV → Prop} (hc : c = cs (g0 2) b)
    (hB : ∀ j s g' u', TBAD c L q j s → R5 b L (q + 5 * j + s) u' → (∀ i, i ≠ 4 → i ≠ 6 → u' i = u0 i) → (∀ j, j ≠ 11 → g' j = g0 j) → K0 g' u')
    (hC : ∀ t g' u', TOK c L q t → q + 5 * t < L → R5 b L (q + 5 * t) u' → (∀ i, i ≠ 4 → i ≠ 6 → u' i = u0 i) → (∀ j, j ≠ 11 → g' j = g0 j) → K0 g' u')
    (hE : ∀ t g' u', TOK c L q t → ST5 c b L q t g0 g' u0 u' → K1 g' u') :
    ∀ (d j : Nat) (g : FF) (u : VV), j + d = 7 → ST5 c b L q j g0 g u0 u → Q_X5_readAll_L98 (nI (b + L)) K0 K1 (d + 1) g u := by
  intro d
  induction d with
  | zero =>
    intro k g u hk h
    rw [Q_X5_readAll_L98]
    have hk : k = 7 := by omega
    subst hk
    rw [h.2.1]
    exact ⟨fun c => absurd c (by decide), fun _ => ⟨fun _ => hE 7 g u ⟨by decide, by decide, h.2.2.2.2.2, Or.inl rfl⟩ h, fun c => absurd (by decide) c⟩⟩
  | succ d ih =>
    intro k g u hk h
    rw [Q_X5_readAll_L98]
    have hR := h.1
    have hb := hR.1
    have hp := hR.2.1
    have hg2 : g 2 = g0 2 := h.2.2.2.1 2 (by decide)
    refine ⟨fun c0 => ?_, fun c0 => ?_⟩
    · rw [h.2.1] at c0
      have hk0 : k = 0 := (nI_eq (a := k) (b := 0) (by omega) (by omega)).mp c0
      exact ts5 hc (by omega) h (fun g' u' h' => ih (k + 1) g' u' (by omega) h') (fun s g' u' e1 e2 _ _ e3 e4 e5 => hB k s g' u' ⟨by omega, h.2.2.2.2.2, Or.inl hk0, e1, e2⟩ e3 e4 e5)
    · have hk0 : k ≠ 0 := fun z => c0 (by rw [h.2.1, z]; rfl)
      refine ⟨fun c1 => ?_, fun _ => ⟨fun c1 => ?_, fun c1 => ?_⟩⟩
      · rw [h.2.1] at c1
        exact absurd ((le_nI (a := 7) (by omega) (by omega)).mp c1) (by omega)
      · rw [hR.2.2, le_nI (by omega) (by omega)] at c1
        refine hE k g u ⟨by omega, by omega, h.2.2.2.2.2, Or.inr ?_⟩ h
        rw [pkv_end (by omega)]; decide
      · rw [hR.2.2, le_nI (by omega) (by omega)] at c1
        refine ts5 hc (by omega) h (fun g' u' h' => ih (k + 1) g' u' (by omega) h') (fun s g' u' e1 e2 e6 e7 e3 e4 e5 => ?_)
        rcases Nat.eq_zero_or_pos s with rfl | hs
        · exact hC k g' u' ⟨by omega, by omega, h.2.2.2.2.2, Or.inr (e6 rfl)⟩ (by omega) e3 e4 e5
        · exact hB k s g' u' ⟨by omega, h.2.2.2.2.2, Or.inr (e7 hs), e1, e2⟩ e3 e4 e5
end T7
theorem q5_readAll {b L : Nat} {c : Nat → Int32} {g : FF} {u : VV} {posf : Int32 → FF → VV → Prop} (hc : c = cs (g 2) b) (hb : b + L ≤ 240) (hu4 : u 4 = nI b)
    (h1 : ∀ n t g' u', POK c L n t → SRow c L n (fun i => g' 10 (3 * i)) (fun i => g' 10 (3 * i + 1)) (fun i => g' 10 (3 * i + 2)) → TRow c L (1 + 4 * n) t (fun i => g' 11 (4 * i)) (fun i => g' 11 (4 * i + 1)) (fun i => g' 11 (4 * i + 2)) (fun i => g' 11 (4 * i + 3)) → u' 5 = nI n → u' 6 = nI t → (∀ i, i ≠ 4 → i ≠ 5 → i ≠ 6 → u' i = u i) → (∀ j, j ≠ 10 → j ≠ 11 → g' j = g j) → posf 1 g' u')
    (h0 : ∀ pl g' u', PBAD c L pl → pl ≤ L → u' 4 = nI (b + pl) → (∀ i, i ≠ 4 → i ≠ 5 → i ≠ 6 → u' i = u i) → (∀ j, j ≠ 10 → j ≠ 11 → g' j = g j) → posf 0 g' u') :
    Q_X5_readAll (nI (b + L)) g u posf := by
  unfold Q_X5_readAll
  intro v1 ev1 v2 ev2
  have f2 : ∀ i, i ≠ 4 → i ≠ 5 → i ≠ 6 → v2 i = u i := fun i _ a b => by rw [ev2, fu_ne b, ev1, fu_ne a]
  have R0 : R5 b L 0 v2 := ⟨hb, by omega, by rw [ev2, fu_ne (by decide), ev1, fu_ne (by decide), hu4]; rfl⟩
  refine q5_isSign (by decide) R0 (fun e hl u1 m1 => ⟨fun _ => ⟨6, ?_⟩, fun c => absurd c (by decide)⟩) (fun e => ⟨fun c => absurd rfl c, fun _ => h0 0 g v2 (Or.inl ⟨by rw [hc]; exact e, rfl⟩) (by omega) R0.2.2 f2 (fun _ _ _ => rfl)⟩)
  have e : pkv c L 0 = 109 := by rw [hc]; exact e
  have u5 : u1 5 = nI 0 := by rw [m1.2 5 (by decide), ev2, fu_ne (by decide), ev1, fu_eq]; rfl
  have u6 : u1 6 = 0 := by rw [m1.2 6 (by decide), ev2, fu_eq]
  have S0 : SS5 c b L 0 g g u1 u1 := ⟨R0.mv m1 (by omega), u5, fun _ _ _ => rfl, fun _ _ => rfl, fun i hi => absurd hi (by omega), fun i hi => absurd hi (by omega)⟩
  refine q5_rs_loop hc (fun k s g' u' hB hR hu hg => h0 (1 + 4 * k + s) g' u' (Or.inr (Or.inl ⟨e, k, s, hB, rfl⟩)) hR.2.1 hR.2.2 (fun i a b c => by rw [hu i a b, m1.2 i a, f2 i a b c]) (fun j a b => hg j a)) ?_ 5 0 g u1 (by omega) S0
  intro n g1 u1' hS h
  have T0 : ST5 c b L (1 + 4 * n) 0 g1 g1 u1' u1' := ⟨h.1, by rw [h.2.2.1 6 (by decide) (by decide), u6]; rfl, fun _ _ _ => rfl, fun _ _ => rfl, fun i hi => absurd hi (by omega), fun i hi => absurd hi (by omega)⟩
  have hc1 : c = cs (g1 2) b := by rw [hc, h.2.2.2.1 2 (by decide)]
  have fu1 : ∀ i, i ≠ 4 → i ≠ 5 → i ≠ 6 → u1' i = u i := fun i a b c => by rw [h.2.2.1 i a b, m1.2 i a, f2 i a b c]
  refine ⟨8, q5_rt_loop hc1 (fun j s g' u' hB hR hu hg => h0 (1 + 4 * n + 5 * j + s) g' u' (Or.inr (Or.inr (Or.inl ⟨e, n, hS, j, s, hB, rfl⟩))) hR.2.1 hR.2.2 (fun i a b c => by rw [hu i a c, fu1 i a b c]) (fun j a b => by rw [hg j b, h.2.2.2.1 j a])) (fun t g' u' hT hl hR hu hg => h0 (1 + 4 * n + 5 * t) g' u' (Or.inr (Or.inr (Or.inr ⟨e, n, t, hS, hT, rfl, by omega⟩))) hR.2.1 hR.2.2 (fun i a b c => by rw [hu i a c, fu1 i a b c]) (fun j a b => by rw [hg j b, h.2.2.2.1 j a])) ?_ 7 0 g1 u1' (by omega) T0⟩
  intro t g' u' hT h'
  have fu2 : ∀ i, i ≠ 4 → i ≠ 5 → i ≠ 6 → u' i = u i := fun i a b c => by rw [h'.2.2.1 i a c, fu1 i a b c]
  have fg2 : ∀ j, j ≠ 10 → j ≠ 11 → g' j = g j := fun j a b => by rw [h'.2.2.2.1 j b, h.2.2.2.1 j a]
  have hR := h'.1
  have hp := hR.2.1
  have q1 : u' 4 = nI (b + L) ↔ 1 + 4 * n + 5 * t = L := by
    rw [hR.2.2, nI_eq (by omega) (by omega)]; omega
  refine ⟨fun c => h0 (1 + 4 * n + 5 * t) g' u' (Or.inr (Or.inr (Or.inr ⟨e, n, t, hS, hT, rfl, fun z => c (q1.mpr z)⟩))) hp hR.2.2 fu2 fg2, fun c => h1 n t g' u' ⟨e, hS, hT, q1.mp c⟩ ?_ h'.2.2.2.2.1 ?_ h'.2.1 fu2 fg2⟩
  · rw [h'.2.2.2.1 10 (by decide)]; exact h.2.2.2.2.1
  · rw [h'.2.2.1 5 (by decide) (by decide)]; exact h.2.1
